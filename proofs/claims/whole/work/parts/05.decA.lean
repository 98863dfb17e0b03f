theorem dX0_init_0 : decode cX0_init 0 = .ok (.aload_n 0, 1) := by decide +kernel
theorem dX0_init_1 : decode cX0_init 1 = .ok (.invokespecial 3, 3) := by decide +kernel
theorem dX0_init_4 : decode cX0_init 4 = .ok (.aload_n 0, 1) := by decide +kernel
theorem dX0_init_5 : decode cX0_init 5 = .ok (.aload_n 1, 1) := by decide +kernel
theorem dX0_init_6 : decode cX0_init 6 = .ok (.getfield 9, 3) := by decide +kernel
theorem dX0_init_9 : decode cX0_init 9 = .ok (.putfield 15, 3) := by decide +kernel
theorem dX0_init_12 : decode cX0_init 12 = .ok (.aload_n 0, 1) := by decide +kernel
theorem dX0_init_13 : decode cX0_init 13 = .ok (.aload_n 1, 1) := by decide +kernel
theorem dX0_init_14 : decode cX0_init 14 = .ok (.getfield 18, 3) := by decide +kernel
theorem dX0_init_17 : decode cX0_init 17 = .ok (.putfield 21, 3) := by decide +kernel
theorem dX0_init_20 : decode cX0_init 20 = .ok (.aload_n 0, 1) := by decide +kernel
theorem dX0_init_21 : decode cX0_init 21 = .ok (.aload_n 1, 1) := by decide +kernel
theorem dX0_init_22 : decode cX0_init 22 = .ok (.getfield 22, 3) := by decide +kernel
theorem dX0_init_25 : decode cX0_init 25 = .ok (.putfield 25, 3) := by decide +kernel
theorem dX0_init_28 : decode cX0_init 28 = .ok (.aload_n 0, 1) := by decide +kernel
theorem dX0_init_29 : decode cX0_init 29 = .ok (.aload_n 1, 1) := by decide +kernel
theorem dX0_init_30 : decode cX0_init 30 = .ok (.getfield 26, 3) := by decide +kernel
theorem dX0_init_33 : decode cX0_init 33 = .ok (.putfield 29, 3) := by decide +kernel
theorem dX0_init_36 : decode cX0_init 36 = .ok (.aload_n 0, 1) := by decide +kernel
theorem dX0_init_37 : decode cX0_init 37 = .ok (.aload_n 1, 1) := by decide +kernel
theorem dX0_init_38 : decode cX0_init 38 = .ok (.getfield 30, 3) := by decide +kernel
theorem dX0_init_41 : decode cX0_init 41 = .ok (.putfield 33, 3) := by decide +kernel
theorem dX0_init_44 : decode cX0_init 44 = .ok (.aload_n 0, 1) := by decide +kernel
theorem dX0_init_45 : decode cX0_init 45 = .ok (.aload_n 1, 1) := by decide +kernel
theorem dX0_init_46 : decode cX0_init 46 = .ok (.getfield 34, 3) := by decide +kernel
theorem dX0_init_49 : decode cX0_init 49 = .ok (.iconst 0, 1) := by decide +kernel
theorem dX0_init_50 : decode cX0_init 50 = .ok (.aload_n 1, 1) := by decide +kernel
theorem dX0_init_51 : decode cX0_init 51 = .ok (.getfield 38, 3) := by decide +kernel
theorem dX0_init_54 : decode cX0_init 54 = .ok (.invokestatic 41, 3) := by decide +kernel
theorem dX0_init_57 : decode cX0_init 57 = .ok (.invokestatic 47, 3) := by decide +kernel
theorem dX0_init_60 : decode cX0_init 60 = .ok (.putfield 53, 3) := by decide +kernel
theorem dX0_init_63 : decode cX0_init 63 = .ok (.return_, 1) := by decide +kernel
theorem dX0_kind_0 : decode cX0_kind 0 = .ok (.iconst 0, 1) := by decide +kernel
theorem dX0_kind_1 : decode cX0_kind 1 = .ok (.ireturn, 1) := by decide +kernel
theorem dX0_endCount_0 : decode cX0_endCount 0 = .ok (.aload_n 0, 1) := by decide +kernel
theorem dX0_endCount_1 : decode cX0_endCount 1 = .ok (.getfield 53, 3) := by decide +kernel
theorem dX0_endCount_4 : decode cX0_endCount 4 = .ok (.arraylength, 1) := by decide +kernel
theorem dX0_endCount_5 : decode cX0_endCount 5 = .ok (.ireturn, 1) := by decide +kernel
theorem dX0_end_0 : decode cX0_end 0 = .ok (.iload_n 1, 1) := by decide +kernel
theorem dX0_end_1 : decode cX0_end 1 = .ok (.ifCond .lt 21, 3) := by decide +kernel
theorem dX0_end_4 : decode cX0_end 4 = .ok (.iload_n 1, 1) := by decide +kernel
theorem dX0_end_5 : decode cX0_end 5 = .ok (.aload_n 0, 1) := by decide +kernel
theorem dX0_end_6 : decode cX0_end 6 = .ok (.getfield 53, 3) := by decide +kernel
theorem dX0_end_9 : decode cX0_end 9 = .ok (.arraylength, 1) := by decide +kernel
theorem dX0_end_10 : decode cX0_end 10 = .ok (.if_icmp .ge 12, 3) := by decide +kernel
theorem dX0_end_13 : decode cX0_end 13 = .ok (.aload_n 0, 1) := by decide +kernel
theorem dX0_end_14 : decode cX0_end 14 = .ok (.getfield 53, 3) := by decide +kernel
theorem dX0_end_17 : decode cX0_end 17 = .ok (.iload_n 1, 1) := by decide +kernel
theorem dX0_end_18 : decode cX0_end 18 = .ok (.iaload, 1) := by decide +kernel
theorem dX0_end_19 : decode cX0_end 19 = .ok (.goto 4, 3) := by decide +kernel
theorem dX0_end_22 : decode cX0_end 22 = .ok (.iconst (-1), 1) := by decide +kernel
theorem dX0_end_23 : decode cX0_end 23 = .ok (.ireturn, 1) := by decide +kernel
theorem dX0_turnMinutes_0 : decode cX0_turnMinutes 0 = .ok (.aload_n 0, 1) := by decide +kernel
theorem dX0_turnMinutes_1 : decode cX0_turnMinutes 1 = .ok (.getfield 25, 3) := by decide +kernel
theorem dX0_turnMinutes_4 : decode cX0_turnMinutes 4 = .ok (.ireturn, 1) := by decide +kernel
theorem dX0_placeCount_0 : decode cX0_placeCount 0 = .ok (.aload_n 0, 1) := by decide +kernel
theorem dX0_placeCount_1 : decode cX0_placeCount 1 = .ok (.getfield 53, 3) := by decide +kernel
theorem dX0_placeCount_4 : decode cX0_placeCount 4 = .ok (.arraylength, 1) := by decide +kernel
theorem dX0_placeCount_5 : decode cX0_placeCount 5 = .ok (.ireturn, 1) := by decide +kernel
theorem dX0_endOfPlace_0 : decode cX0_endOfPlace 0 = .ok (.aload_n 0, 1) := by decide +kernel
theorem dX0_endOfPlace_1 : decode cX0_endOfPlace 1 = .ok (.iload_n 1, 1) := by decide +kernel
theorem dX0_endOfPlace_2 : decode cX0_endOfPlace 2 = .ok (.invokevirtual 54, 3) := by decide +kernel
theorem dX0_endOfPlace_5 : decode cX0_endOfPlace 5 = .ok (.ireturn, 1) := by decide +kernel
theorem dX0_roundMinutes_0 : decode cX0_roundMinutes 0 = .ok (.aload_n 0, 1) := by decide +kernel
theorem dX0_roundMinutes_1 : decode cX0_roundMinutes 1 = .ok (.invokevirtual 58, 3) := by decide +kernel
theorem dX0_roundMinutes_4 : decode cX0_roundMinutes 4 = .ok (.aload_n 0, 1) := by decide +kernel
theorem dX0_roundMinutes_5 : decode cX0_roundMinutes 5 = .ok (.getfield 21, 3) := by decide +kernel
theorem dX0_roundMinutes_8 : decode cX0_roundMinutes 8 = .ok (.aload_n 0, 1) := by decide +kernel
theorem dX0_roundMinutes_9 : decode cX0_roundMinutes 9 = .ok (.iload_n 1, 1) := by decide +kernel
theorem dX0_roundMinutes_10 : decode cX0_roundMinutes 10 = .ok (.invokevirtual 62, 3) := by decide +kernel
theorem dX0_roundMinutes_13 : decode cX0_roundMinutes 13 = .ok (.iadd, 1) := by decide +kernel
theorem dX0_roundMinutes_14 : decode cX0_roundMinutes 14 = .ok (.imul, 1) := by decide +kernel
theorem dX0_roundMinutes_15 : decode cX0_roundMinutes 15 = .ok (.ireturn, 1) := by decide +kernel
theorem dX0_endAt_0 : decode cX0_endAt 0 = .ok (.aload_n 0, 1) := by decide +kernel
theorem dX0_endAt_1 : decode cX0_endAt 1 = .ok (.getfield 21, 3) := by decide +kernel
theorem dX0_endAt_4 : decode cX0_endAt 4 = .ok (.aload_n 0, 1) := by decide +kernel
theorem dX0_endAt_5 : decode cX0_endAt 5 = .ok (.iload_n 2, 1) := by decide +kernel
theorem dX0_endAt_6 : decode cX0_endAt 6 = .ok (.invokevirtual 62, 3) := by decide +kernel
theorem dX0_endAt_9 : decode cX0_endAt 9 = .ok (.iadd, 1) := by decide +kernel
theorem dX0_endAt_10 : decode cX0_endAt 10 = .ok (.istore_n 3, 1) := by decide +kernel
theorem dX0_endAt_11 : decode cX0_endAt 11 = .ok (.aload_n 0, 1) := by decide +kernel
theorem dX0_endAt_12 : decode cX0_endAt 12 = .ok (.iload_n 2, 1) := by decide +kernel
theorem dX0_endAt_13 : decode cX0_endAt 13 = .ok (.invokevirtual 66, 3) := by decide +kernel
theorem dX0_endAt_16 : decode cX0_endAt 16 = .ok (.istore 4, 2) := by decide +kernel
theorem dX0_endAt_18 : decode cX0_endAt 18 = .ok (.iload_n 3, 1) := by decide +kernel
theorem dX0_endAt_19 : decode cX0_endAt 19 = .ok (.iconst 1, 1) := by decide +kernel
theorem dX0_endAt_20 : decode cX0_endAt 20 = .ok (.if_icmp .lt 13, 3) := by decide +kernel
theorem dX0_endAt_23 : decode cX0_endAt 23 = .ok (.iload 4, 2) := by decide +kernel
theorem dX0_endAt_25 : decode cX0_endAt 25 = .ok (.iconst 1, 1) := by decide +kernel
theorem dX0_endAt_26 : decode cX0_endAt 26 = .ok (.if_icmp .lt 7, 3) := by decide +kernel
theorem dX0_endAt_29 : decode cX0_endAt 29 = .ok (.iload_n 1, 1) := by decide +kernel
theorem dX0_endAt_30 : decode cX0_endAt 30 = .ok (.ifCond .ge 5, 3) := by decide +kernel
theorem dX0_endAt_33 : decode cX0_endAt 33 = .ok (.iconst (-1), 1) := by decide +kernel
theorem dX0_endAt_34 : decode cX0_endAt 34 = .ok (.ireturn, 1) := by decide +kernel
theorem dX0_endAt_35 : decode cX0_endAt 35 = .ok (.iload_n 1, 1) := by decide +kernel
theorem dX0_endAt_36 : decode cX0_endAt 36 = .ok (.iload 4, 2) := by decide +kernel
theorem dX0_endAt_38 : decode cX0_endAt 38 = .ok (.irem, 1) := by decide +kernel
theorem dX0_endAt_39 : decode cX0_endAt 39 = .ok (.istore 5, 2) := by decide +kernel
theorem dX0_endAt_41 : decode cX0_endAt 41 = .ok (.iload 5, 2) := by decide +kernel
theorem dX0_endAt_43 : decode cX0_endAt 43 = .ok (.iload_n 3, 1) := by decide +kernel
theorem dX0_endAt_44 : decode cX0_endAt 44 = .ok (.irem, 1) := by decide +kernel
theorem dX0_endAt_45 : decode cX0_endAt 45 = .ok (.aload_n 0, 1) := by decide +kernel
theorem dX0_endAt_46 : decode cX0_endAt 46 = .ok (.getfield 21, 3) := by decide +kernel
theorem dX0_endAt_49 : decode cX0_endAt 49 = .ok (.if_icmp .ge 14, 3) := by decide +kernel
theorem dX0_endAt_52 : decode cX0_endAt 52 = .ok (.aload_n 0, 1) := by decide +kernel
theorem dX0_endAt_53 : decode cX0_endAt 53 = .ok (.iload 5, 2) := by decide +kernel
theorem dX0_endAt_55 : decode cX0_endAt 55 = .ok (.iload_n 3, 1) := by decide +kernel
theorem dX0_endAt_56 : decode cX0_endAt 56 = .ok (.idiv, 1) := by decide +kernel
theorem dX0_endAt_57 : decode cX0_endAt 57 = .ok (.invokevirtual 69, 3) := by decide +kernel
theorem dX0_endAt_60 : decode cX0_endAt 60 = .ok (.goto 4, 3) := by decide +kernel
theorem dX0_endAt_63 : decode cX0_endAt 63 = .ok (.iconst (-1), 1) := by decide +kernel
theorem dX0_endAt_64 : decode cX0_endAt 64 = .ok (.ireturn, 1) := by decide +kernel
theorem dX0_standsStill_0 : decode cX0_standsStill 0 = .ok (.aload_n 0, 1) := by decide +kernel
theorem dX0_standsStill_1 : decode cX0_standsStill 1 = .ok (.getfield 21, 3) := by decide +kernel
theorem dX0_standsStill_4 : decode cX0_standsStill 4 = .ok (.aload_n 0, 1) := by decide +kernel
theorem dX0_standsStill_5 : decode cX0_standsStill 5 = .ok (.iload_n 2, 1) := by decide +kernel
theorem dX0_standsStill_6 : decode cX0_standsStill 6 = .ok (.invokevirtual 62, 3) := by decide +kernel
theorem dX0_standsStill_9 : decode cX0_standsStill 9 = .ok (.iadd, 1) := by decide +kernel
theorem dX0_standsStill_10 : decode cX0_standsStill 10 = .ok (.istore_n 3, 1) := by decide +kernel
theorem dX0_standsStill_11 : decode cX0_standsStill 11 = .ok (.iload_n 3, 1) := by decide +kernel
theorem dX0_standsStill_12 : decode cX0_standsStill 12 = .ok (.iconst 1, 1) := by decide +kernel
theorem dX0_standsStill_13 : decode cX0_standsStill 13 = .ok (.if_icmp .lt 7, 3) := by decide +kernel
theorem dX0_standsStill_16 : decode cX0_standsStill 16 = .ok (.iload_n 1, 1) := by decide +kernel
theorem dX0_standsStill_17 : decode cX0_standsStill 17 = .ok (.ifCond .ge 5, 3) := by decide +kernel
theorem dX0_standsStill_20 : decode cX0_standsStill 20 = .ok (.iconst 0, 1) := by decide +kernel
theorem dX0_standsStill_21 : decode cX0_standsStill 21 = .ok (.ireturn, 1) := by decide +kernel
theorem dX0_standsStill_22 : decode cX0_standsStill 22 = .ok (.iconst 0, 1) := by decide +kernel
theorem dX0_standsStill_23 : decode cX0_standsStill 23 = .ok (.aload_n 0, 1) := by decide +kernel
theorem dX0_standsStill_24 : decode cX0_standsStill 24 = .ok (.getfield 21, 3) := by decide +kernel
theorem dX0_standsStill_27 : decode cX0_standsStill 27 = .ok (.iload_n 1, 1) := by decide +kernel
theorem dX0_standsStill_28 : decode cX0_standsStill 28 = .ok (.iload_n 3, 1) := by decide +kernel
theorem dX0_standsStill_29 : decode cX0_standsStill 29 = .ok (.irem, 1) := by decide +kernel
theorem dX0_standsStill_30 : decode cX0_standsStill 30 = .ok (.isub, 1) := by decide +kernel
theorem dX0_standsStill_31 : decode cX0_standsStill 31 = .ok (.invokestatic 41, 3) := by decide +kernel
theorem dX0_standsStill_34 : decode cX0_standsStill 34 = .ok (.ireturn, 1) := by decide +kernel
theorem dX1_init_0 : decode cX1_init 0 = .ok (.aload_n 0, 1) := by decide +kernel
theorem dX1_init_1 : decode cX1_init 1 = .ok (.invokespecial 5, 3) := by decide +kernel
theorem dX1_init_4 : decode cX1_init 4 = .ok (.aload_n 0, 1) := by decide +kernel
theorem dX1_init_5 : decode cX1_init 5 = .ok (.sipush 610, 3) := by decide +kernel
theorem dX1_init_8 : decode cX1_init 8 = .ok (.newarray .int, 2) := by decide +kernel
theorem dX1_init_10 : decode cX1_init 10 = .ok (.putfield 11, 3) := by decide +kernel
theorem dX1_init_13 : decode cX1_init 13 = .ok (.aload_n 0, 1) := by decide +kernel
theorem dX1_init_14 : decode cX1_init 14 = .ok (.sipush 488, 3) := by decide +kernel
theorem dX1_init_17 : decode cX1_init 17 = .ok (.newarray .int, 2) := by decide +kernel
theorem dX1_init_19 : decode cX1_init 19 = .ok (.putfield 15, 3) := by decide +kernel
theorem dX1_init_22 : decode cX1_init 22 = .ok (.aload_n 0, 1) := by decide +kernel
theorem dX1_init_23 : decode cX1_init 23 = .ok (.sipush 488, 3) := by decide +kernel
theorem dX1_init_26 : decode cX1_init 26 = .ok (.newarray .int, 2) := by decide +kernel
theorem dX1_init_28 : decode cX1_init 28 = .ok (.putfield 18, 3) := by decide +kernel
theorem dX1_init_31 : decode cX1_init 31 = .ok (.aload_n 0, 1) := by decide +kernel
theorem dX1_init_32 : decode cX1_init 32 = .ok (.sipush 488, 3) := by decide +kernel
theorem dX1_init_35 : decode cX1_init 35 = .ok (.newarray .int, 2) := by decide +kernel
theorem dX1_init_37 : decode cX1_init 37 = .ok (.putfield 21, 3) := by decide +kernel
theorem dX1_init_40 : decode cX1_init 40 = .ok (.aload_n 0, 1) := by decide +kernel
theorem dX1_init_41 : decode cX1_init 41 = .ok (.sipush 488, 3) := by decide +kernel
theorem dX1_init_44 : decode cX1_init 44 = .ok (.newarray .int, 2) := by decide +kernel
theorem dX1_init_46 : decode cX1_init 46 = .ok (.putfield 24, 3) := by decide +kernel
theorem dX1_init_49 : decode cX1_init 49 = .ok (.return_, 1) := by decide +kernel
theorem dX1_most_0 : decode cX1_most 0 = .ok (.iload_n 2, 1) := by decide +kernel
theorem dX1_most_1 : decode cX1_most 1 = .ok (.invokestatic 27, 3) := by decide +kernel
theorem dX1_most_4 : decode cX1_most 4 = .ok (.ifCond .eq 24, 3) := by decide +kernel
theorem dX1_most_7 : decode cX1_most 7 = .ok (.iload_n 3, 1) := by decide +kernel
theorem dX1_most_8 : decode cX1_most 8 = .ok (.invokestatic 27, 3) := by decide +kernel
theorem dX1_most_11 : decode cX1_most 11 = .ok (.ifCond .eq 17, 3) := by decide +kernel
theorem dX1_most_14 : decode cX1_most 14 = .ok (.iload_n 2, 1) := by decide +kernel
theorem dX1_most_15 : decode cX1_most 15 = .ok (.iload_n 3, 1) := by decide +kernel
theorem dX1_most_16 : decode cX1_most 16 = .ok (.if_icmp .eq 12, 3) := by decide +kernel
theorem dX1_most_19 : decode cX1_most 19 = .ok (.aload_n 1, 1) := by decide +kernel
theorem dX1_most_20 : decode cX1_most 20 = .ok (.invokevirtual 31, 3) := by decide +kernel
theorem dX1_most_23 : decode cX1_most 23 = .ok (.bipush 61, 2) := by decide +kernel
theorem dX1_most_25 : decode cX1_most 25 = .ok (.if_icmp .lt 5, 3) := by decide +kernel
theorem dX1_most_28 : decode cX1_most 28 = .ok (.iconst 0, 1) := by decide +kernel
theorem dX1_most_29 : decode cX1_most 29 = .ok (.ireturn, 1) := by decide +kernel
theorem dX1_most_30 : decode cX1_most 30 = .ok (.aload_n 0, 1) := by decide +kernel
theorem dX1_most_31 : decode cX1_most 31 = .ok (.getfield 11, 3) := by decide +kernel
theorem dX1_most_34 : decode cX1_most 34 = .ok (.iconst 0, 1) := by decide +kernel
theorem dX1_most_35 : decode cX1_most 35 = .ok (.invokestatic 37, 3) := by decide +kernel
theorem dX1_most_38 : decode cX1_most 38 = .ok (.aload_n 0, 1) := by decide +kernel
theorem dX1_most_39 : decode cX1_most 39 = .ok (.getfield 15, 3) := by decide +kernel
theorem dX1_most_42 : decode cX1_most 42 = .ok (.iconst 0, 1) := by decide +kernel
theorem dX1_most_43 : decode cX1_most 43 = .ok (.invokestatic 37, 3) := by decide +kernel
theorem dX1_most_46 : decode cX1_most 46 = .ok (.iconst 0, 1) := by decide +kernel
theorem dX1_most_47 : decode cX1_most 47 = .ok (.istore 4, 2) := by decide +kernel
theorem dX1_most_49 : decode cX1_most 49 = .ok (.iconst 1, 1) := by decide +kernel
theorem dX1_most_50 : decode cX1_most 50 = .ok (.istore 5, 2) := by decide +kernel
theorem dX1_most_52 : decode cX1_most 52 = .ok (.iconst 0, 1) := by decide +kernel
theorem dX1_most_53 : decode cX1_most 53 = .ok (.istore 6, 2) := by decide +kernel
theorem dX1_most_55 : decode cX1_most 55 = .ok (.iload 6, 2) := by decide +kernel
theorem dX1_most_57 : decode cX1_most 57 = .ok (.sipush 610, 3) := by decide +kernel
theorem dX1_most_60 : decode cX1_most 60 = .ok (.if_icmp .gt 50, 3) := by decide +kernel
theorem dX1_most_63 : decode cX1_most 63 = .ok (.iload 5, 2) := by decide +kernel
theorem dX1_most_65 : decode cX1_most 65 = .ok (.ifCond .eq 45, 3) := by decide +kernel
theorem dX1_most_68 : decode cX1_most 68 = .ok (.aload_n 0, 1) := by decide +kernel
theorem dX1_most_69 : decode cX1_most 69 = .ok (.getfield 18, 3) := by decide +kernel
theorem dX1_most_72 : decode cX1_most 72 = .ok (.iconst 0, 1) := by decide +kernel
theorem dX1_most_73 : decode cX1_most 73 = .ok (.invokestatic 37, 3) := by decide +kernel
theorem dX1_most_76 : decode cX1_most 76 = .ok (.aload_n 0, 1) := by decide +kernel
theorem dX1_most_77 : decode cX1_most 77 = .ok (.aload_n 1, 1) := by decide +kernel
theorem dX1_most_78 : decode cX1_most 78 = .ok (.iload_n 2, 1) := by decide +kernel
theorem dX1_most_79 : decode cX1_most 79 = .ok (.iload_n 3, 1) := by decide +kernel
theorem dX1_most_80 : decode cX1_most 80 = .ok (.invokevirtual 43, 3) := by decide +kernel
theorem dX1_most_83 : decode cX1_most 83 = .ok (.istore 7, 2) := by decide +kernel
theorem dX1_most_85 : decode cX1_most 85 = .ok (.iload 4, 2) := by decide +kernel
theorem dX1_most_87 : decode cX1_most 87 = .ok (.iload 7, 2) := by decide +kernel
theorem dX1_most_89 : decode cX1_most 89 = .ok (.iadd, 1) := by decide +kernel
theorem dX1_most_90 : decode cX1_most 90 = .ok (.istore 4, 2) := by decide +kernel
theorem dX1_most_92 : decode cX1_most 92 = .ok (.iload 7, 2) := by decide +kernel
theorem dX1_most_94 : decode cX1_most 94 = .ok (.ifCond .le 7, 3) := by decide +kernel
theorem dX1_most_97 : decode cX1_most 97 = .ok (.iconst 1, 1) := by decide +kernel
theorem dX1_most_98 : decode cX1_most 98 = .ok (.goto 4, 3) := by decide +kernel
theorem dX1_most_101 : decode cX1_most 101 = .ok (.iconst 0, 1) := by decide +kernel
theorem dX1_most_102 : decode cX1_most 102 = .ok (.istore 5, 2) := by decide +kernel
theorem dX1_most_104 : decode cX1_most 104 = .ok (.iinc 6 1, 3) := by decide +kernel
theorem dX1_most_107 : decode cX1_most 107 = .ok (.goto (-52), 3) := by decide +kernel
theorem dX1_most_110 : decode cX1_most 110 = .ok (.iload 4, 2) := by decide +kernel
theorem dX1_most_112 : decode cX1_most 112 = .ok (.ireturn, 1) := by decide +kernel
theorem dX1_sendWhilePathsAreFound_0 : decode cX1_sendWhilePathsAreFound 0 = .ok (.iconst 0, 1) := by decide +kernel
theorem dX1_sendWhilePathsAreFound_1 : decode cX1_sendWhilePathsAreFound 1 = .ok (.istore 4, 2) := by decide +kernel
theorem dX1_sendWhilePathsAreFound_3 : decode cX1_sendWhilePathsAreFound 3 = .ok (.iconst 0, 1) := by decide +kernel
theorem dX1_sendWhilePathsAreFound_4 : decode cX1_sendWhilePathsAreFound 4 = .ok (.istore 5, 2) := by decide +kernel
theorem dX1_sendWhilePathsAreFound_6 : decode cX1_sendWhilePathsAreFound 6 = .ok (.iload 5, 2) := by decide +kernel
theorem dX1_sendWhilePathsAreFound_8 : decode cX1_sendWhilePathsAreFound 8 = .ok (.sipush 610, 3) := by decide +kernel
theorem dX1_sendWhilePathsAreFound_11 : decode cX1_sendWhilePathsAreFound 11 = .ok (.if_icmp .gt 71, 3) := by decide +kernel
theorem dX1_sendWhilePathsAreFound_14 : decode cX1_sendWhilePathsAreFound 14 = .ok (.aload_n 0, 1) := by decide +kernel
theorem dX1_sendWhilePathsAreFound_15 : decode cX1_sendWhilePathsAreFound 15 = .ok (.aload_n 1, 1) := by decide +kernel
theorem dX1_sendWhilePathsAreFound_16 : decode cX1_sendWhilePathsAreFound 16 = .ok (.iload_n 2, 1) := by decide +kernel
theorem dX1_sendWhilePathsAreFound_17 : decode cX1_sendWhilePathsAreFound 17 = .ok (.iload_n 3, 1) := by decide +kernel
theorem dX1_sendWhilePathsAreFound_18 : decode cX1_sendWhilePathsAreFound 18 = .ok (.invokevirtual 47, 3) := by decide +kernel
theorem dX1_sendWhilePathsAreFound_21 : decode cX1_sendWhilePathsAreFound 21 = .ok (.istore 6, 2) := by decide +kernel
theorem dX1_sendWhilePathsAreFound_23 : decode cX1_sendWhilePathsAreFound 23 = .ok (.iload 6, 2) := by decide +kernel
theorem dX1_sendWhilePathsAreFound_25 : decode cX1_sendWhilePathsAreFound 25 = .ok (.ifCond .ne 6, 3) := by decide +kernel
theorem dX1_sendWhilePathsAreFound_28 : decode cX1_sendWhilePathsAreFound 28 = .ok (.goto 54, 3) := by decide +kernel
theorem dX1_sendWhilePathsAreFound_31 : decode cX1_sendWhilePathsAreFound 31 = .ok (.iconst 0, 1) := by decide +kernel
theorem dX1_sendWhilePathsAreFound_32 : decode cX1_sendWhilePathsAreFound 32 = .ok (.istore 7, 2) := by decide +kernel
theorem dX1_sendWhilePathsAreFound_34 : decode cX1_sendWhilePathsAreFound 34 = .ok (.iload 7, 2) := by decide +kernel
theorem dX1_sendWhilePathsAreFound_36 : decode cX1_sendWhilePathsAreFound 36 = .ok (.iconst 1, 1) := by decide +kernel
theorem dX1_sendWhilePathsAreFound_37 : decode cX1_sendWhilePathsAreFound 37 = .ok (.iadd, 1) := by decide +kernel
theorem dX1_sendWhilePathsAreFound_38 : decode cX1_sendWhilePathsAreFound 38 = .ok (.iload 6, 2) := by decide +kernel
theorem dX1_sendWhilePathsAreFound_40 : decode cX1_sendWhilePathsAreFound 40 = .ok (.if_icmp .ge 33, 3) := by decide +kernel
theorem dX1_sendWhilePathsAreFound_43 : decode cX1_sendWhilePathsAreFound 43 = .ok (.aload_n 0, 1) := by decide +kernel
theorem dX1_sendWhilePathsAreFound_44 : decode cX1_sendWhilePathsAreFound 44 = .ok (.aload_n 1, 1) := by decide +kernel
theorem dX1_sendWhilePathsAreFound_45 : decode cX1_sendWhilePathsAreFound 45 = .ok (.aload_n 0, 1) := by decide +kernel
theorem dX1_sendWhilePathsAreFound_46 : decode cX1_sendWhilePathsAreFound 46 = .ok (.getfield 24, 3) := by decide +kernel
theorem dX1_sendWhilePathsAreFound_49 : decode cX1_sendWhilePathsAreFound 49 = .ok (.iload 7, 2) := by decide +kernel
theorem dX1_sendWhilePathsAreFound_51 : decode cX1_sendWhilePathsAreFound 51 = .ok (.iaload, 1) := by decide +kernel
theorem dX1_sendWhilePathsAreFound_52 : decode cX1_sendWhilePathsAreFound 52 = .ok (.aload_n 0, 1) := by decide +kernel
theorem dX1_sendWhilePathsAreFound_53 : decode cX1_sendWhilePathsAreFound 53 = .ok (.getfield 18, 3) := by decide +kernel
theorem dX1_sendWhilePathsAreFound_56 : decode cX1_sendWhilePathsAreFound 56 = .ok (.aload_n 0, 1) := by decide +kernel
theorem dX1_sendWhilePathsAreFound_57 : decode cX1_sendWhilePathsAreFound 57 = .ok (.getfield 24, 3) := by decide +kernel
theorem dX1_sendWhilePathsAreFound_60 : decode cX1_sendWhilePathsAreFound 60 = .ok (.iload 7, 2) := by decide +kernel
theorem dX1_sendWhilePathsAreFound_62 : decode cX1_sendWhilePathsAreFound 62 = .ok (.iaload, 1) := by decide +kernel
theorem dX1_sendWhilePathsAreFound_63 : decode cX1_sendWhilePathsAreFound 63 = .ok (.iaload, 1) := by decide +kernel
theorem dX1_sendWhilePathsAreFound_64 : decode cX1_sendWhilePathsAreFound 64 = .ok (.invokevirtual 50, 3) := by decide +kernel
theorem dX1_sendWhilePathsAreFound_67 : decode cX1_sendWhilePathsAreFound 67 = .ok (.iinc 7 1, 3) := by decide +kernel
theorem dX1_sendWhilePathsAreFound_70 : decode cX1_sendWhilePathsAreFound 70 = .ok (.goto (-36), 3) := by decide +kernel
theorem dX1_sendWhilePathsAreFound_73 : decode cX1_sendWhilePathsAreFound 73 = .ok (.iinc 4 1, 3) := by decide +kernel
theorem dX1_sendWhilePathsAreFound_76 : decode cX1_sendWhilePathsAreFound 76 = .ok (.iinc 5 1, 3) := by decide +kernel
theorem dX1_sendWhilePathsAreFound_79 : decode cX1_sendWhilePathsAreFound 79 = .ok (.goto (-73), 3) := by decide +kernel
theorem dX1_sendWhilePathsAreFound_82 : decode cX1_sendWhilePathsAreFound 82 = .ok (.iload 4, 2) := by decide +kernel
theorem dX1_sendWhilePathsAreFound_84 : decode cX1_sendWhilePathsAreFound 84 = .ok (.ireturn, 1) := by decide +kernel
theorem dX1_findPath_0 : decode cX1_findPath 0 = .ok (.aload_n 0, 1) := by decide +kernel
theorem dX1_findPath_1 : decode cX1_findPath 1 = .ok (.getfield 21, 3) := by decide +kernel
theorem dX1_findPath_4 : decode cX1_findPath 4 = .ok (.iconst 0, 1) := by decide +kernel
theorem dX1_findPath_5 : decode cX1_findPath 5 = .ok (.invokestatic 37, 3) := by decide +kernel
theorem dX1_findPath_8 : decode cX1_findPath 8 = .ok (.iconst 1, 1) := by decide +kernel
theorem dX1_findPath_9 : decode cX1_findPath 9 = .ok (.istore 4, 2) := by decide +kernel
theorem dX1_findPath_11 : decode cX1_findPath 11 = .ok (.aload_n 0, 1) := by decide +kernel
theorem dX1_findPath_12 : decode cX1_findPath 12 = .ok (.getfield 24, 3) := by decide +kernel
theorem dX1_findPath_15 : decode cX1_findPath 15 = .ok (.iconst 0, 1) := by decide +kernel
theorem dX1_findPath_16 : decode cX1_findPath 16 = .ok (.iload_n 2, 1) := by decide +kernel
theorem dX1_findPath_17 : decode cX1_findPath 17 = .ok (.iconst 0, 1) := by decide +kernel
theorem dX1_findPath_18 : decode cX1_findPath 18 = .ok (.invokestatic 54, 3) := by decide +kernel
theorem dX1_findPath_21 : decode cX1_findPath 21 = .ok (.iastore, 1) := by decide +kernel
theorem dX1_findPath_22 : decode cX1_findPath 22 = .ok (.aload_n 0, 1) := by decide +kernel
theorem dX1_findPath_23 : decode cX1_findPath 23 = .ok (.getfield 21, 3) := by decide +kernel
theorem dX1_findPath_26 : decode cX1_findPath 26 = .ok (.aload_n 0, 1) := by decide +kernel
theorem dX1_findPath_27 : decode cX1_findPath 27 = .ok (.getfield 24, 3) := by decide +kernel
theorem dX1_findPath_30 : decode cX1_findPath 30 = .ok (.iconst 0, 1) := by decide +kernel
theorem dX1_findPath_31 : decode cX1_findPath 31 = .ok (.iaload, 1) := by decide +kernel
theorem dX1_findPath_32 : decode cX1_findPath 32 = .ok (.iconst 1, 1) := by decide +kernel
theorem dX1_findPath_33 : decode cX1_findPath 33 = .ok (.iastore, 1) := by decide +kernel
theorem dX1_findPath_34 : decode cX1_findPath 34 = .ok (.iconst 0, 1) := by decide +kernel
theorem dX1_findPath_35 : decode cX1_findPath 35 = .ok (.istore 5, 2) := by decide +kernel
theorem dX1_findPath_37 : decode cX1_findPath 37 = .ok (.iload 5, 2) := by decide +kernel
theorem dX1_findPath_39 : decode cX1_findPath 39 = .ok (.ldc 58, 2) := by decide +kernel
theorem dX1_findPath_41 : decode cX1_findPath 41 = .ok (.if_icmp .ge 160, 3) := by decide +kernel
theorem dX1_findPath_44 : decode cX1_findPath 44 = .ok (.iload 4, 2) := by decide +kernel
theorem dX1_findPath_46 : decode cX1_findPath 46 = .ok (.ifCond .le 155, 3) := by decide +kernel
theorem dX1_findPath_49 : decode cX1_findPath 49 = .ok (.aload_n 0, 1) := by decide +kernel
theorem dX1_findPath_50 : decode cX1_findPath 50 = .ok (.getfield 24, 3) := by decide +kernel
theorem dX1_findPath_53 : decode cX1_findPath 53 = .ok (.iload 4, 2) := by decide +kernel
theorem dX1_findPath_55 : decode cX1_findPath 55 = .ok (.iconst 1, 1) := by decide +kernel
theorem dX1_findPath_56 : decode cX1_findPath 56 = .ok (.isub, 1) := by decide +kernel
theorem dX1_findPath_57 : decode cX1_findPath 57 = .ok (.iaload, 1) := by decide +kernel
theorem dX1_findPath_58 : decode cX1_findPath 58 = .ok (.istore 6, 2) := by decide +kernel
theorem dX1_findPath_60 : decode cX1_findPath 60 = .ok (.iload 6, 2) := by decide +kernel
theorem dX1_findPath_62 : decode cX1_findPath 62 = .ok (.bipush 61, 2) := by decide +kernel
theorem dX1_findPath_64 : decode cX1_findPath 64 = .ok (.idiv, 1) := by decide +kernel
theorem dX1_findPath_65 : decode cX1_findPath 65 = .ok (.iload_n 3, 1) := by decide +kernel
theorem dX1_findPath_66 : decode cX1_findPath 66 = .ok (.if_icmp .ne 6, 3) := by decide +kernel
theorem dX1_findPath_69 : decode cX1_findPath 69 = .ok (.iload 4, 2) := by decide +kernel
theorem dX1_findPath_71 : decode cX1_findPath 71 = .ok (.ireturn, 1) := by decide +kernel
theorem dX1_findPath_72 : decode cX1_findPath 72 = .ok (.aload_n 0, 1) := by decide +kernel
theorem dX1_findPath_73 : decode cX1_findPath 73 = .ok (.getfield 18, 3) := by decide +kernel
theorem dX1_findPath_76 : decode cX1_findPath 76 = .ok (.iload 6, 2) := by decide +kernel
theorem dX1_findPath_78 : decode cX1_findPath 78 = .ok (.iaload, 1) := by decide +kernel
theorem dX1_findPath_79 : decode cX1_findPath 79 = .ok (.bipush 22, 2) := by decide +kernel
theorem dX1_findPath_81 : decode cX1_findPath 81 = .ok (.if_icmp .lt 40, 3) := by decide +kernel
theorem dX1_findPath_84 : decode cX1_findPath 84 = .ok (.aload_n 0, 1) := by decide +kernel
theorem dX1_findPath_85 : decode cX1_findPath 85 = .ok (.getfield 21, 3) := by decide +kernel
theorem dX1_findPath_88 : decode cX1_findPath 88 = .ok (.iload 6, 2) := by decide +kernel
theorem dX1_findPath_90 : decode cX1_findPath 90 = .ok (.iconst 0, 1) := by decide +kernel
theorem dX1_findPath_91 : decode cX1_findPath 91 = .ok (.iastore, 1) := by decide +kernel
theorem dX1_findPath_92 : decode cX1_findPath 92 = .ok (.iinc 4 (-1), 3) := by decide +kernel
theorem dX1_findPath_95 : decode cX1_findPath 95 = .ok (.iload 4, 2) := by decide +kernel
theorem dX1_findPath_97 : decode cX1_findPath 97 = .ok (.ifCond .le 98, 3) := by decide +kernel
theorem dX1_findPath_100 : decode cX1_findPath 100 = .ok (.aload_n 0, 1) := by decide +kernel
theorem dX1_findPath_101 : decode cX1_findPath 101 = .ok (.getfield 18, 3) := by decide +kernel
theorem dX1_findPath_104 : decode cX1_findPath 104 = .ok (.aload_n 0, 1) := by decide +kernel
theorem dX1_findPath_105 : decode cX1_findPath 105 = .ok (.getfield 24, 3) := by decide +kernel
theorem dX1_findPath_108 : decode cX1_findPath 108 = .ok (.iload 4, 2) := by decide +kernel
theorem dX1_findPath_110 : decode cX1_findPath 110 = .ok (.iconst 1, 1) := by decide +kernel
theorem dX1_findPath_111 : decode cX1_findPath 111 = .ok (.isub, 1) := by decide +kernel
theorem dX1_findPath_112 : decode cX1_findPath 112 = .ok (.iaload, 1) := by decide +kernel
theorem dX1_findPath_113 : decode cX1_findPath 113 = .ok (.dup2, 1) := by decide +kernel
theorem dX1_findPath_114 : decode cX1_findPath 114 = .ok (.iaload, 1) := by decide +kernel
theorem dX1_findPath_115 : decode cX1_findPath 115 = .ok (.iconst 1, 1) := by decide +kernel
theorem dX1_findPath_116 : decode cX1_findPath 116 = .ok (.iadd, 1) := by decide +kernel
theorem dX1_findPath_117 : decode cX1_findPath 117 = .ok (.iastore, 1) := by decide +kernel
theorem dX1_findPath_118 : decode cX1_findPath 118 = .ok (.goto 77, 3) := by decide +kernel
theorem dX1_findPath_121 : decode cX1_findPath 121 = .ok (.aload_n 0, 1) := by decide +kernel
theorem dX1_findPath_122 : decode cX1_findPath 122 = .ok (.aload_n 1, 1) := by decide +kernel
theorem dX1_findPath_123 : decode cX1_findPath 123 = .ok (.iload 6, 2) := by decide +kernel
theorem dX1_findPath_125 : decode cX1_findPath 125 = .ok (.aload_n 0, 1) := by decide +kernel
theorem dX1_findPath_126 : decode cX1_findPath 126 = .ok (.getfield 18, 3) := by decide +kernel
theorem dX1_findPath_129 : decode cX1_findPath 129 = .ok (.iload 6, 2) := by decide +kernel
theorem dX1_findPath_131 : decode cX1_findPath 131 = .ok (.iaload, 1) := by decide +kernel
theorem dX1_findPath_132 : decode cX1_findPath 132 = .ok (.invokevirtual 59, 3) := by decide +kernel
theorem dX1_findPath_135 : decode cX1_findPath 135 = .ok (.istore 7, 2) := by decide +kernel
theorem dX1_findPath_137 : decode cX1_findPath 137 = .ok (.iload 7, 2) := by decide +kernel
theorem dX1_findPath_139 : decode cX1_findPath 139 = .ok (.iconst (-1), 1) := by decide +kernel
theorem dX1_findPath_140 : decode cX1_findPath 140 = .ok (.if_icmp .eq 21, 3) := by decide +kernel
theorem dX1_findPath_143 : decode cX1_findPath 143 = .ok (.aload_n 0, 1) := by decide +kernel
theorem dX1_findPath_144 : decode cX1_findPath 144 = .ok (.getfield 21, 3) := by decide +kernel
theorem dX1_findPath_147 : decode cX1_findPath 147 = .ok (.iload 7, 2) := by decide +kernel
theorem dX1_findPath_149 : decode cX1_findPath 149 = .ok (.iaload, 1) := by decide +kernel
theorem dX1_findPath_150 : decode cX1_findPath 150 = .ok (.ifCond .ne 11, 3) := by decide +kernel
theorem dX1_findPath_153 : decode cX1_findPath 153 = .ok (.iload 4, 2) := by decide +kernel
theorem dX1_findPath_155 : decode cX1_findPath 155 = .ok (.sipush 488, 3) := by decide +kernel
theorem dX1_findPath_158 : decode cX1_findPath 158 = .ok (.if_icmp .lt 17, 3) := by decide +kernel
theorem dX1_findPath_161 : decode cX1_findPath 161 = .ok (.aload_n 0, 1) := by decide +kernel
theorem dX1_findPath_162 : decode cX1_findPath 162 = .ok (.getfield 18, 3) := by decide +kernel
theorem dX1_findPath_165 : decode cX1_findPath 165 = .ok (.iload 6, 2) := by decide +kernel
theorem dX1_findPath_167 : decode cX1_findPath 167 = .ok (.dup2, 1) := by decide +kernel
theorem dX1_findPath_168 : decode cX1_findPath 168 = .ok (.iaload, 1) := by decide +kernel
theorem dX1_findPath_169 : decode cX1_findPath 169 = .ok (.iconst 1, 1) := by decide +kernel
theorem dX1_findPath_170 : decode cX1_findPath 170 = .ok (.iadd, 1) := by decide +kernel
theorem dX1_findPath_171 : decode cX1_findPath 171 = .ok (.iastore, 1) := by decide +kernel
theorem dX1_findPath_172 : decode cX1_findPath 172 = .ok (.goto 23, 3) := by decide +kernel
theorem dX1_findPath_175 : decode cX1_findPath 175 = .ok (.aload_n 0, 1) := by decide +kernel
theorem dX1_findPath_176 : decode cX1_findPath 176 = .ok (.getfield 24, 3) := by decide +kernel
theorem dX1_findPath_179 : decode cX1_findPath 179 = .ok (.iload 4, 2) := by decide +kernel
theorem dX1_findPath_181 : decode cX1_findPath 181 = .ok (.iinc 4 1, 3) := by decide +kernel
theorem dX1_findPath_184 : decode cX1_findPath 184 = .ok (.iload 7, 2) := by decide +kernel
theorem dX1_findPath_186 : decode cX1_findPath 186 = .ok (.iastore, 1) := by decide +kernel
theorem dX1_findPath_187 : decode cX1_findPath 187 = .ok (.aload_n 0, 1) := by decide +kernel
theorem dX1_findPath_188 : decode cX1_findPath 188 = .ok (.getfield 21, 3) := by decide +kernel
theorem dX1_findPath_191 : decode cX1_findPath 191 = .ok (.iload 7, 2) := by decide +kernel
theorem dX1_findPath_193 : decode cX1_findPath 193 = .ok (.iconst 1, 1) := by decide +kernel
theorem dX1_findPath_194 : decode cX1_findPath 194 = .ok (.iastore, 1) := by decide +kernel
theorem dX1_findPath_195 : decode cX1_findPath 195 = .ok (.iinc 5 1, 3) := by decide +kernel
theorem dX1_findPath_198 : decode cX1_findPath 198 = .ok (.goto (-161), 3) := by decide +kernel
theorem dX1_findPath_201 : decode cX1_findPath 201 = .ok (.iconst 0, 1) := by decide +kernel
theorem dX1_findPath_202 : decode cX1_findPath 202 = .ok (.ireturn, 1) := by decide +kernel
theorem dX1_knot_0 : decode cX1_knot 0 = .ok (.iload_n 0, 1) := by decide +kernel
theorem dX1_knot_1 : decode cX1_knot 1 = .ok (.ifCond .lt 23, 3) := by decide +kernel
theorem dX1_knot_4 : decode cX1_knot 4 = .ok (.iload_n 0, 1) := by decide +kernel
theorem dX1_knot_5 : decode cX1_knot 5 = .ok (.bipush 8, 2) := by decide +kernel
theorem dX1_knot_7 : decode cX1_knot 7 = .ok (.if_icmp .ge 17, 3) := by decide +kernel
theorem dX1_knot_10 : decode cX1_knot 10 = .ok (.iload_n 1, 1) := by decide +kernel
theorem dX1_knot_11 : decode cX1_knot 11 = .ok (.ifCond .lt 13, 3) := by decide +kernel
theorem dX1_knot_14 : decode cX1_knot 14 = .ok (.iload_n 1, 1) := by decide +kernel
theorem dX1_knot_15 : decode cX1_knot 15 = .ok (.bipush 61, 2) := by decide +kernel
theorem dX1_knot_17 : decode cX1_knot 17 = .ok (.if_icmp .ge 7, 3) := by decide +kernel
theorem dX1_knot_20 : decode cX1_knot 20 = .ok (.iconst 1, 1) := by decide +kernel
theorem dX1_knot_21 : decode cX1_knot 21 = .ok (.goto 4, 3) := by decide +kernel
theorem dX1_knot_24 : decode cX1_knot 24 = .ok (.iconst 0, 1) := by decide +kernel
theorem dX1_knot_25 : decode cX1_knot 25 = .ok (.istore_n 2, 1) := by decide +kernel
theorem dX1_knot_26 : decode cX1_knot 26 = .ok (.iload_n 2, 1) := by decide +kernel
theorem dX1_knot_27 : decode cX1_knot 27 = .ok (.ifCond .eq 12, 3) := by decide +kernel
theorem dX1_knot_30 : decode cX1_knot 30 = .ok (.iload_n 0, 1) := by decide +kernel
theorem dX1_knot_31 : decode cX1_knot 31 = .ok (.bipush 61, 2) := by decide +kernel
theorem dX1_knot_33 : decode cX1_knot 33 = .ok (.imul, 1) := by decide +kernel
theorem dX1_knot_34 : decode cX1_knot 34 = .ok (.iload_n 1, 1) := by decide +kernel
theorem dX1_knot_35 : decode cX1_knot 35 = .ok (.iadd, 1) := by decide +kernel
theorem dX1_knot_36 : decode cX1_knot 36 = .ok (.goto 4, 3) := by decide +kernel
theorem dX1_knot_39 : decode cX1_knot 39 = .ok (.iconst (-1), 1) := by decide +kernel
theorem dX1_knot_40 : decode cX1_knot 40 = .ok (.ireturn, 1) := by decide +kernel
theorem dX1_nextKnot_0 : decode cX1_nextKnot 0 = .ok (.iload_n 2, 1) := by decide +kernel
theorem dX1_nextKnot_1 : decode cX1_nextKnot 1 = .ok (.bipush 61, 2) := by decide +kernel
theorem dX1_nextKnot_3 : decode cX1_nextKnot 3 = .ok (.idiv, 1) := by decide +kernel
theorem dX1_nextKnot_4 : decode cX1_nextKnot 4 = .ok (.istore 4, 2) := by decide +kernel
theorem dX1_nextKnot_6 : decode cX1_nextKnot 6 = .ok (.iload_n 2, 1) := by decide +kernel
theorem dX1_nextKnot_7 : decode cX1_nextKnot 7 = .ok (.bipush 61, 2) := by decide +kernel
theorem dX1_nextKnot_9 : decode cX1_nextKnot 9 = .ok (.irem, 1) := by decide +kernel
theorem dX1_nextKnot_10 : decode cX1_nextKnot 10 = .ok (.istore 5, 2) := by decide +kernel
theorem dX1_nextKnot_12 : decode cX1_nextKnot 12 = .ok (.iload_n 3, 1) := by decide +kernel
theorem dX1_nextKnot_13 : decode cX1_nextKnot 13 = .ok (.bipush 10, 2) := by decide +kernel
theorem dX1_nextKnot_15 : decode cX1_nextKnot 15 = .ok (.if_icmp .ge 14, 3) := by decide +kernel
theorem dX1_nextKnot_18 : decode cX1_nextKnot 18 = .ok (.aload_n 0, 1) := by decide +kernel
theorem dX1_nextKnot_19 : decode cX1_nextKnot 19 = .ok (.aload_n 1, 1) := by decide +kernel
theorem dX1_nextKnot_20 : decode cX1_nextKnot 20 = .ok (.iload_n 3, 1) := by decide +kernel
theorem dX1_nextKnot_21 : decode cX1_nextKnot 21 = .ok (.iload 4, 2) := by decide +kernel
theorem dX1_nextKnot_23 : decode cX1_nextKnot 23 = .ok (.iload 5, 2) := by decide +kernel
theorem dX1_nextKnot_25 : decode cX1_nextKnot 25 = .ok (.invokevirtual 62, 3) := by decide +kernel
theorem dX1_nextKnot_28 : decode cX1_nextKnot 28 = .ok (.ireturn, 1) := by decide +kernel
theorem dX1_nextKnot_29 : decode cX1_nextKnot 29 = .ok (.iload_n 3, 1) := by decide +kernel
theorem dX1_nextKnot_30 : decode cX1_nextKnot 30 = .ok (.bipush 10, 2) := by decide +kernel
theorem dX1_nextKnot_32 : decode cX1_nextKnot 32 = .ok (.if_icmp .ne 26, 3) := by decide +kernel
theorem dX1_nextKnot_35 : decode cX1_nextKnot 35 = .ok (.iload 5, 2) := by decide +kernel
theorem dX1_nextKnot_37 : decode cX1_nextKnot 37 = .ok (.aload_n 1, 1) := by decide +kernel
theorem dX1_nextKnot_38 : decode cX1_nextKnot 38 = .ok (.invokevirtual 31, 3) := by decide +kernel
theorem dX1_nextKnot_41 : decode cX1_nextKnot 41 = .ok (.if_icmp .ge 15, 3) := by decide +kernel
theorem dX1_nextKnot_44 : decode cX1_nextKnot 44 = .ok (.iload 4, 2) := by decide +kernel
theorem dX1_nextKnot_46 : decode cX1_nextKnot 46 = .ok (.iload 5, 2) := by decide +kernel
theorem dX1_nextKnot_48 : decode cX1_nextKnot 48 = .ok (.iconst 1, 1) := by decide +kernel
theorem dX1_nextKnot_49 : decode cX1_nextKnot 49 = .ok (.iadd, 1) := by decide +kernel
theorem dX1_nextKnot_50 : decode cX1_nextKnot 50 = .ok (.invokestatic 54, 3) := by decide +kernel
theorem dX1_nextKnot_53 : decode cX1_nextKnot 53 = .ok (.goto 4, 3) := by decide +kernel
theorem dX1_nextKnot_56 : decode cX1_nextKnot 56 = .ok (.iconst (-1), 1) := by decide +kernel
theorem dX1_nextKnot_57 : decode cX1_nextKnot 57 = .ok (.ireturn, 1) := by decide +kernel
theorem dX1_nextKnot_58 : decode cX1_nextKnot 58 = .ok (.iload_n 3, 1) := by decide +kernel
theorem dX1_nextKnot_59 : decode cX1_nextKnot 59 = .ok (.bipush 21, 2) := by decide +kernel
theorem dX1_nextKnot_61 : decode cX1_nextKnot 61 = .ok (.if_icmp .ge 17, 3) := by decide +kernel
theorem dX1_nextKnot_64 : decode cX1_nextKnot 64 = .ok (.aload_n 0, 1) := by decide +kernel
theorem dX1_nextKnot_65 : decode cX1_nextKnot 65 = .ok (.aload_n 1, 1) := by decide +kernel
theorem dX1_nextKnot_66 : decode cX1_nextKnot 66 = .ok (.iload_n 3, 1) := by decide +kernel
theorem dX1_nextKnot_67 : decode cX1_nextKnot 67 = .ok (.bipush 11, 2) := by decide +kernel
theorem dX1_nextKnot_69 : decode cX1_nextKnot 69 = .ok (.isub, 1) := by decide +kernel
theorem dX1_nextKnot_70 : decode cX1_nextKnot 70 = .ok (.iload 4, 2) := by decide +kernel
theorem dX1_nextKnot_72 : decode cX1_nextKnot 72 = .ok (.iload 5, 2) := by decide +kernel
theorem dX1_nextKnot_74 : decode cX1_nextKnot 74 = .ok (.invokevirtual 66, 3) := by decide +kernel
theorem dX1_nextKnot_77 : decode cX1_nextKnot 77 = .ok (.ireturn, 1) := by decide +kernel
theorem dX1_nextKnot_78 : decode cX1_nextKnot 78 = .ok (.iload 5, 2) := by decide +kernel
theorem dX1_nextKnot_80 : decode cX1_nextKnot 80 = .ok (.ifCond .le 26, 3) := by decide +kernel
theorem dX1_nextKnot_83 : decode cX1_nextKnot 83 = .ok (.aload_n 0, 1) := by decide +kernel
theorem dX1_nextKnot_84 : decode cX1_nextKnot 84 = .ok (.getfield 15, 3) := by decide +kernel
theorem dX1_nextKnot_87 : decode cX1_nextKnot 87 = .ok (.iload_n 2, 1) := by decide +kernel
theorem dX1_nextKnot_88 : decode cX1_nextKnot 88 = .ok (.iconst 1, 1) := by decide +kernel
theorem dX1_nextKnot_89 : decode cX1_nextKnot 89 = .ok (.isub, 1) := by decide +kernel
theorem dX1_nextKnot_90 : decode cX1_nextKnot 90 = .ok (.iaload, 1) := by decide +kernel
theorem dX1_nextKnot_91 : decode cX1_nextKnot 91 = .ok (.ifCond .le 15, 3) := by decide +kernel
theorem dX1_nextKnot_94 : decode cX1_nextKnot 94 = .ok (.iload 4, 2) := by decide +kernel
theorem dX1_nextKnot_96 : decode cX1_nextKnot 96 = .ok (.iload 5, 2) := by decide +kernel
theorem dX1_nextKnot_98 : decode cX1_nextKnot 98 = .ok (.iconst 1, 1) := by decide +kernel
theorem dX1_nextKnot_99 : decode cX1_nextKnot 99 = .ok (.isub, 1) := by decide +kernel
theorem dX1_nextKnot_100 : decode cX1_nextKnot 100 = .ok (.invokestatic 54, 3) := by decide +kernel
theorem dX1_nextKnot_103 : decode cX1_nextKnot 103 = .ok (.goto 4, 3) := by decide +kernel
theorem dX1_nextKnot_106 : decode cX1_nextKnot 106 = .ok (.iconst (-1), 1) := by decide +kernel
theorem dX1_nextKnot_107 : decode cX1_nextKnot 107 = .ok (.ireturn, 1) := by decide +kernel
theorem dX1_acrossFrom_0 : decode cX1_acrossFrom 0 = .ok (.aload_n 1, 1) := by decide +kernel
theorem dX1_acrossFrom_1 : decode cX1_acrossFrom 1 = .ok (.iload_n 2, 1) := by decide +kernel
theorem dX1_acrossFrom_2 : decode cX1_acrossFrom 2 = .ok (.iload 4, 2) := by decide +kernel
theorem dX1_acrossFrom_4 : decode cX1_acrossFrom 4 = .ok (.invokevirtual 69, 3) := by decide +kernel
theorem dX1_acrossFrom_7 : decode cX1_acrossFrom 7 = .ok (.istore 5, 2) := by decide +kernel
theorem dX1_acrossFrom_9 : decode cX1_acrossFrom 9 = .ok (.iload 5, 2) := by decide +kernel
theorem dX1_acrossFrom_11 : decode cX1_acrossFrom 11 = .ok (.iconst (-1), 1) := by decide +kernel
theorem dX1_acrossFrom_12 : decode cX1_acrossFrom 12 = .ok (.if_icmp .ne 5, 3) := by decide +kernel
theorem dX1_acrossFrom_15 : decode cX1_acrossFrom 15 = .ok (.iconst (-1), 1) := by decide +kernel
theorem dX1_acrossFrom_16 : decode cX1_acrossFrom 16 = .ok (.ireturn, 1) := by decide +kernel
theorem dX1_acrossFrom_17 : decode cX1_acrossFrom 17 = .ok (.aload_n 1, 1) := by decide +kernel
theorem dX1_acrossFrom_18 : decode cX1_acrossFrom 18 = .ok (.iload_n 2, 1) := by decide +kernel
theorem dX1_acrossFrom_19 : decode cX1_acrossFrom 19 = .ok (.invokevirtual 72, 3) := by decide +kernel
theorem dX1_acrossFrom_22 : decode cX1_acrossFrom 22 = .ok (.istore 6, 2) := by decide +kernel
theorem dX1_acrossFrom_24 : decode cX1_acrossFrom 24 = .ok (.aload_n 0, 1) := by decide +kernel
theorem dX1_acrossFrom_25 : decode cX1_acrossFrom 25 = .ok (.getfield 11, 3) := by decide +kernel
theorem dX1_acrossFrom_28 : decode cX1_acrossFrom 28 = .ok (.iload_n 2, 1) := by decide +kernel
theorem dX1_acrossFrom_29 : decode cX1_acrossFrom 29 = .ok (.bipush 61, 2) := by decide +kernel
theorem dX1_acrossFrom_31 : decode cX1_acrossFrom 31 = .ok (.imul, 1) := by decide +kernel
theorem dX1_acrossFrom_32 : decode cX1_acrossFrom 32 = .ok (.iload 4, 2) := by decide +kernel
theorem dX1_acrossFrom_34 : decode cX1_acrossFrom 34 = .ok (.iadd, 1) := by decide +kernel
theorem dX1_acrossFrom_35 : decode cX1_acrossFrom 35 = .ok (.iaload, 1) := by decide +kernel
theorem dX1_acrossFrom_36 : decode cX1_acrossFrom 36 = .ok (.istore 7, 2) := by decide +kernel
theorem dX1_acrossFrom_38 : decode cX1_acrossFrom 38 = .ok (.iload_n 3, 1) := by decide +kernel
theorem dX1_acrossFrom_39 : decode cX1_acrossFrom 39 = .ok (.iload 6, 2) := by decide +kernel
theorem dX1_acrossFrom_41 : decode cX1_acrossFrom 41 = .ok (.if_icmp .ne 23, 3) := by decide +kernel
theorem dX1_acrossFrom_44 : decode cX1_acrossFrom 44 = .ok (.iload 7, 2) := by decide +kernel
theorem dX1_acrossFrom_46 : decode cX1_acrossFrom 46 = .ok (.iconst 1, 1) := by decide +kernel
theorem dX1_acrossFrom_47 : decode cX1_acrossFrom 47 = .ok (.iand, 1) := by decide +kernel
theorem dX1_acrossFrom_48 : decode cX1_acrossFrom 48 = .ok (.ifCond .ne 16, 3) := by decide +kernel
theorem dX1_acrossFrom_51 : decode cX1_acrossFrom 51 = .ok (.iload 5, 2) := by decide +kernel
theorem dX1_acrossFrom_53 : decode cX1_acrossFrom 53 = .ok (.iload 4, 2) := by decide +kernel
theorem dX1_acrossFrom_55 : decode cX1_acrossFrom 55 = .ok (.aload_n 1, 1) := by decide +kernel
theorem dX1_acrossFrom_56 : decode cX1_acrossFrom 56 = .ok (.invokevirtual 76, 3) := by decide +kernel
theorem dX1_acrossFrom_59 : decode cX1_acrossFrom 59 = .ok (.iadd, 1) := by decide +kernel
theorem dX1_acrossFrom_60 : decode cX1_acrossFrom 60 = .ok (.invokestatic 54, 3) := by decide +kernel
theorem dX1_acrossFrom_63 : decode cX1_acrossFrom 63 = .ok (.ireturn, 1) := by decide +kernel
theorem dX1_acrossFrom_64 : decode cX1_acrossFrom 64 = .ok (.iload_n 3, 1) := by decide +kernel
theorem dX1_acrossFrom_65 : decode cX1_acrossFrom 65 = .ok (.iload 5, 2) := by decide +kernel
theorem dX1_acrossFrom_67 : decode cX1_acrossFrom 67 = .ok (.if_icmp .ne 23, 3) := by decide +kernel
theorem dX1_acrossFrom_70 : decode cX1_acrossFrom 70 = .ok (.iload 7, 2) := by decide +kernel
theorem dX1_acrossFrom_72 : decode cX1_acrossFrom 72 = .ok (.iconst 2, 1) := by decide +kernel
theorem dX1_acrossFrom_73 : decode cX1_acrossFrom 73 = .ok (.iand, 1) := by decide +kernel
theorem dX1_acrossFrom_74 : decode cX1_acrossFrom 74 = .ok (.ifCond .ne 16, 3) := by decide +kernel
theorem dX1_acrossFrom_77 : decode cX1_acrossFrom 77 = .ok (.iload 6, 2) := by decide +kernel
theorem dX1_acrossFrom_79 : decode cX1_acrossFrom 79 = .ok (.iload 4, 2) := by decide +kernel
theorem dX1_acrossFrom_81 : decode cX1_acrossFrom 81 = .ok (.aload_n 1, 1) := by decide +kernel
theorem dX1_acrossFrom_82 : decode cX1_acrossFrom 82 = .ok (.invokevirtual 76, 3) := by decide +kernel
theorem dX1_acrossFrom_85 : decode cX1_acrossFrom 85 = .ok (.iadd, 1) := by decide +kernel
theorem dX1_acrossFrom_86 : decode cX1_acrossFrom 86 = .ok (.invokestatic 54, 3) := by decide +kernel
theorem dX1_acrossFrom_89 : decode cX1_acrossFrom 89 = .ok (.ireturn, 1) := by decide +kernel
theorem dX1_acrossFrom_90 : decode cX1_acrossFrom 90 = .ok (.iconst (-1), 1) := by decide +kernel
theorem dX1_acrossFrom_91 : decode cX1_acrossFrom 91 = .ok (.ireturn, 1) := by decide +kernel
theorem dX1_takenBackFrom_0 : decode cX1_takenBackFrom 0 = .ok (.iload 4, 2) := by decide +kernel
theorem dX1_takenBackFrom_2 : decode cX1_takenBackFrom 2 = .ok (.aload_n 1, 1) := by decide +kernel
theorem dX1_takenBackFrom_3 : decode cX1_takenBackFrom 3 = .ok (.invokevirtual 76, 3) := by decide +kernel
theorem dX1_takenBackFrom_6 : decode cX1_takenBackFrom 6 = .ok (.isub, 1) := by decide +kernel
theorem dX1_takenBackFrom_7 : decode cX1_takenBackFrom 7 = .ok (.istore 5, 2) := by decide +kernel
theorem dX1_takenBackFrom_9 : decode cX1_takenBackFrom 9 = .ok (.aload_n 1, 1) := by decide +kernel
theorem dX1_takenBackFrom_10 : decode cX1_takenBackFrom 10 = .ok (.iload_n 2, 1) := by decide +kernel
theorem dX1_takenBackFrom_11 : decode cX1_takenBackFrom 11 = .ok (.iload 5, 2) := by decide +kernel
theorem dX1_takenBackFrom_13 : decode cX1_takenBackFrom 13 = .ok (.invokevirtual 69, 3) := by decide +kernel
theorem dX1_takenBackFrom_16 : decode cX1_takenBackFrom 16 = .ok (.istore 6, 2) := by decide +kernel
theorem dX1_takenBackFrom_18 : decode cX1_takenBackFrom 18 = .ok (.iload 6, 2) := by decide +kernel
theorem dX1_takenBackFrom_20 : decode cX1_takenBackFrom 20 = .ok (.iconst (-1), 1) := by decide +kernel
theorem dX1_takenBackFrom_21 : decode cX1_takenBackFrom 21 = .ok (.if_icmp .ne 5, 3) := by decide +kernel
theorem dX1_takenBackFrom_24 : decode cX1_takenBackFrom 24 = .ok (.iconst (-1), 1) := by decide +kernel
theorem dX1_takenBackFrom_25 : decode cX1_takenBackFrom 25 = .ok (.ireturn, 1) := by decide +kernel
theorem dX1_takenBackFrom_26 : decode cX1_takenBackFrom 26 = .ok (.aload_n 1, 1) := by decide +kernel
theorem dX1_takenBackFrom_27 : decode cX1_takenBackFrom 27 = .ok (.iload_n 2, 1) := by decide +kernel
theorem dX1_takenBackFrom_28 : decode cX1_takenBackFrom 28 = .ok (.invokevirtual 72, 3) := by decide +kernel
theorem dX1_takenBackFrom_31 : decode cX1_takenBackFrom 31 = .ok (.istore 7, 2) := by decide +kernel
theorem dX1_takenBackFrom_33 : decode cX1_takenBackFrom 33 = .ok (.aload_n 0, 1) := by decide +kernel
theorem dX1_takenBackFrom_34 : decode cX1_takenBackFrom 34 = .ok (.getfield 11, 3) := by decide +kernel
theorem dX1_takenBackFrom_37 : decode cX1_takenBackFrom 37 = .ok (.iload_n 2, 1) := by decide +kernel
theorem dX1_takenBackFrom_38 : decode cX1_takenBackFrom 38 = .ok (.bipush 61, 2) := by decide +kernel
theorem dX1_takenBackFrom_40 : decode cX1_takenBackFrom 40 = .ok (.imul, 1) := by decide +kernel
theorem dX1_takenBackFrom_41 : decode cX1_takenBackFrom 41 = .ok (.iload 5, 2) := by decide +kernel
theorem dX1_takenBackFrom_43 : decode cX1_takenBackFrom 43 = .ok (.iadd, 1) := by decide +kernel
theorem dX1_takenBackFrom_44 : decode cX1_takenBackFrom 44 = .ok (.iaload, 1) := by decide +kernel
theorem dX1_takenBackFrom_45 : decode cX1_takenBackFrom 45 = .ok (.istore 8, 2) := by decide +kernel
theorem dX1_takenBackFrom_47 : decode cX1_takenBackFrom 47 = .ok (.iload_n 3, 1) := by decide +kernel
theorem dX1_takenBackFrom_48 : decode cX1_takenBackFrom 48 = .ok (.iload 6, 2) := by decide +kernel
theorem dX1_takenBackFrom_50 : decode cX1_takenBackFrom 50 = .ok (.if_icmp .ne 18, 3) := by decide +kernel
theorem dX1_takenBackFrom_53 : decode cX1_takenBackFrom 53 = .ok (.iload 8, 2) := by decide +kernel
theorem dX1_takenBackFrom_55 : decode cX1_takenBackFrom 55 = .ok (.iconst 1, 1) := by decide +kernel
theorem dX1_takenBackFrom_56 : decode cX1_takenBackFrom 56 = .ok (.iand, 1) := by decide +kernel
theorem dX1_takenBackFrom_57 : decode cX1_takenBackFrom 57 = .ok (.ifCond .eq 11, 3) := by decide +kernel
theorem dX1_takenBackFrom_60 : decode cX1_takenBackFrom 60 = .ok (.iload 7, 2) := by decide +kernel
theorem dX1_takenBackFrom_62 : decode cX1_takenBackFrom 62 = .ok (.iload 5, 2) := by decide +kernel
theorem dX1_takenBackFrom_64 : decode cX1_takenBackFrom 64 = .ok (.invokestatic 54, 3) := by decide +kernel
theorem dX1_takenBackFrom_67 : decode cX1_takenBackFrom 67 = .ok (.ireturn, 1) := by decide +kernel
theorem dX1_takenBackFrom_68 : decode cX1_takenBackFrom 68 = .ok (.iload_n 3, 1) := by decide +kernel
theorem dX1_takenBackFrom_69 : decode cX1_takenBackFrom 69 = .ok (.iload 7, 2) := by decide +kernel
theorem dX1_takenBackFrom_71 : decode cX1_takenBackFrom 71 = .ok (.if_icmp .ne 18, 3) := by decide +kernel
theorem dX1_takenBackFrom_74 : decode cX1_takenBackFrom 74 = .ok (.iload 8, 2) := by decide +kernel
theorem dX1_takenBackFrom_76 : decode cX1_takenBackFrom 76 = .ok (.iconst 2, 1) := by decide +kernel
theorem dX1_takenBackFrom_77 : decode cX1_takenBackFrom 77 = .ok (.iand, 1) := by decide +kernel
theorem dX1_takenBackFrom_78 : decode cX1_takenBackFrom 78 = .ok (.ifCond .eq 11, 3) := by decide +kernel
theorem dX1_takenBackFrom_81 : decode cX1_takenBackFrom 81 = .ok (.iload 6, 2) := by decide +kernel
theorem dX1_takenBackFrom_83 : decode cX1_takenBackFrom 83 = .ok (.iload 5, 2) := by decide +kernel
theorem dX1_takenBackFrom_85 : decode cX1_takenBackFrom 85 = .ok (.invokestatic 54, 3) := by decide +kernel
theorem dX1_takenBackFrom_88 : decode cX1_takenBackFrom 88 = .ok (.ireturn, 1) := by decide +kernel
theorem dX1_takenBackFrom_89 : decode cX1_takenBackFrom 89 = .ok (.iconst (-1), 1) := by decide +kernel
theorem dX1_takenBackFrom_90 : decode cX1_takenBackFrom 90 = .ok (.ireturn, 1) := by decide +kernel
theorem dX1_send_0 : decode cX1_send 0 = .ok (.iload_n 2, 1) := by decide +kernel
theorem dX1_send_1 : decode cX1_send 1 = .ok (.bipush 61, 2) := by decide +kernel
theorem dX1_send_3 : decode cX1_send 3 = .ok (.idiv, 1) := by decide +kernel
theorem dX1_send_4 : decode cX1_send 4 = .ok (.istore 4, 2) := by decide +kernel
theorem dX1_send_6 : decode cX1_send 6 = .ok (.iload_n 2, 1) := by decide +kernel
theorem dX1_send_7 : decode cX1_send 7 = .ok (.bipush 61, 2) := by decide +kernel
theorem dX1_send_9 : decode cX1_send 9 = .ok (.irem, 1) := by decide +kernel
theorem dX1_send_10 : decode cX1_send 10 = .ok (.istore 5, 2) := by decide +kernel
theorem dX1_send_12 : decode cX1_send 12 = .ok (.iload_n 3, 1) := by decide +kernel
theorem dX1_send_13 : decode cX1_send 13 = .ok (.bipush 10, 2) := by decide +kernel
theorem dX1_send_15 : decode cX1_send 15 = .ok (.if_icmp .ge 36, 3) := by decide +kernel
theorem dX1_send_18 : decode cX1_send 18 = .ok (.aload_n 0, 1) := by decide +kernel
theorem dX1_send_19 : decode cX1_send 19 = .ok (.getfield 11, 3) := by decide +kernel
theorem dX1_send_22 : decode cX1_send 22 = .ok (.iload_n 3, 1) := by decide +kernel
theorem dX1_send_23 : decode cX1_send 23 = .ok (.bipush 61, 2) := by decide +kernel
theorem dX1_send_25 : decode cX1_send 25 = .ok (.imul, 1) := by decide +kernel
theorem dX1_send_26 : decode cX1_send 26 = .ok (.iload 5, 2) := by decide +kernel
theorem dX1_send_28 : decode cX1_send 28 = .ok (.iadd, 1) := by decide +kernel
theorem dX1_send_29 : decode cX1_send 29 = .ok (.dup2, 1) := by decide +kernel
theorem dX1_send_30 : decode cX1_send 30 = .ok (.iaload, 1) := by decide +kernel
theorem dX1_send_31 : decode cX1_send 31 = .ok (.iload 4, 2) := by decide +kernel
theorem dX1_send_33 : decode cX1_send 33 = .ok (.aload_n 1, 1) := by decide +kernel
theorem dX1_send_34 : decode cX1_send 34 = .ok (.iload_n 3, 1) := by decide +kernel
theorem dX1_send_35 : decode cX1_send 35 = .ok (.invokevirtual 72, 3) := by decide +kernel
theorem dX1_send_38 : decode cX1_send 38 = .ok (.if_icmp .ne 7, 3) := by decide +kernel
theorem dX1_send_41 : decode cX1_send 41 = .ok (.iconst 1, 1) := by decide +kernel
theorem dX1_send_42 : decode cX1_send 42 = .ok (.goto 4, 3) := by decide +kernel
theorem dX1_send_45 : decode cX1_send 45 = .ok (.iconst 2, 1) := by decide +kernel
theorem dX1_send_46 : decode cX1_send 46 = .ok (.ixor, 1) := by decide +kernel
theorem dX1_send_47 : decode cX1_send 47 = .ok (.iastore, 1) := by decide +kernel
theorem dX1_send_48 : decode cX1_send 48 = .ok (.goto 100, 3) := by decide +kernel
theorem dX1_send_51 : decode cX1_send 51 = .ok (.iload_n 3, 1) := by decide +kernel
theorem dX1_send_52 : decode cX1_send 52 = .ok (.bipush 10, 2) := by decide +kernel
theorem dX1_send_54 : decode cX1_send 54 = .ok (.if_icmp .ne 16, 3) := by decide +kernel
theorem dX1_send_57 : decode cX1_send 57 = .ok (.aload_n 0, 1) := by decide +kernel
theorem dX1_send_58 : decode cX1_send 58 = .ok (.getfield 15, 3) := by decide +kernel
theorem dX1_send_61 : decode cX1_send 61 = .ok (.iload_n 2, 1) := by decide +kernel
theorem dX1_send_62 : decode cX1_send 62 = .ok (.dup2, 1) := by decide +kernel
theorem dX1_send_63 : decode cX1_send 63 = .ok (.iaload, 1) := by decide +kernel
theorem dX1_send_64 : decode cX1_send 64 = .ok (.iconst 1, 1) := by decide +kernel
theorem dX1_send_65 : decode cX1_send 65 = .ok (.iadd, 1) := by decide +kernel
theorem dX1_send_66 : decode cX1_send 66 = .ok (.iastore, 1) := by decide +kernel
theorem dX1_send_67 : decode cX1_send 67 = .ok (.goto 81, 3) := by decide +kernel
theorem dX1_send_70 : decode cX1_send 70 = .ok (.iload_n 3, 1) := by decide +kernel
theorem dX1_send_71 : decode cX1_send 71 = .ok (.bipush 21, 2) := by decide +kernel
theorem dX1_send_73 : decode cX1_send 73 = .ok (.if_icmp .ge 58, 3) := by decide +kernel
theorem dX1_send_76 : decode cX1_send 76 = .ok (.iload_n 3, 1) := by decide +kernel
theorem dX1_send_77 : decode cX1_send 77 = .ok (.bipush 11, 2) := by decide +kernel
theorem dX1_send_79 : decode cX1_send 79 = .ok (.isub, 1) := by decide +kernel
theorem dX1_send_80 : decode cX1_send 80 = .ok (.istore 6, 2) := by decide +kernel
theorem dX1_send_82 : decode cX1_send 82 = .ok (.iload 5, 2) := by decide +kernel
theorem dX1_send_84 : decode cX1_send 84 = .ok (.aload_n 1, 1) := by decide +kernel
theorem dX1_send_85 : decode cX1_send 85 = .ok (.invokevirtual 76, 3) := by decide +kernel
theorem dX1_send_88 : decode cX1_send 88 = .ok (.isub, 1) := by decide +kernel
theorem dX1_send_89 : decode cX1_send 89 = .ok (.istore 7, 2) := by decide +kernel
theorem dX1_send_91 : decode cX1_send 91 = .ok (.iload 7, 2) := by decide +kernel
theorem dX1_send_93 : decode cX1_send 93 = .ok (.ifCond .lt 35, 3) := by decide +kernel
theorem dX1_send_96 : decode cX1_send 96 = .ok (.aload_n 0, 1) := by decide +kernel
theorem dX1_send_97 : decode cX1_send 97 = .ok (.getfield 11, 3) := by decide +kernel
theorem dX1_send_100 : decode cX1_send 100 = .ok (.iload 6, 2) := by decide +kernel
theorem dX1_send_102 : decode cX1_send 102 = .ok (.bipush 61, 2) := by decide +kernel
theorem dX1_send_104 : decode cX1_send 104 = .ok (.imul, 1) := by decide +kernel
theorem dX1_send_105 : decode cX1_send 105 = .ok (.iload 7, 2) := by decide +kernel
theorem dX1_send_107 : decode cX1_send 107 = .ok (.iadd, 1) := by decide +kernel
theorem dX1_send_108 : decode cX1_send 108 = .ok (.dup2, 1) := by decide +kernel
theorem dX1_send_109 : decode cX1_send 109 = .ok (.iaload, 1) := by decide +kernel
theorem dX1_send_110 : decode cX1_send 110 = .ok (.iload 4, 2) := by decide +kernel
theorem dX1_send_112 : decode cX1_send 112 = .ok (.aload_n 1, 1) := by decide +kernel
theorem dX1_send_113 : decode cX1_send 113 = .ok (.iload 6, 2) := by decide +kernel
theorem dX1_send_115 : decode cX1_send 115 = .ok (.invokevirtual 72, 3) := by decide +kernel
theorem dX1_send_118 : decode cX1_send 118 = .ok (.if_icmp .ne 7, 3) := by decide +kernel
theorem dX1_send_121 : decode cX1_send 121 = .ok (.iconst 2, 1) := by decide +kernel
theorem dX1_send_122 : decode cX1_send 122 = .ok (.goto 4, 3) := by decide +kernel
theorem dX1_send_125 : decode cX1_send 125 = .ok (.iconst 1, 1) := by decide +kernel
theorem dX1_send_126 : decode cX1_send 126 = .ok (.ixor, 1) := by decide +kernel
theorem dX1_send_127 : decode cX1_send 127 = .ok (.iastore, 1) := by decide +kernel
theorem dX1_send_128 : decode cX1_send 128 = .ok (.goto 20, 3) := by decide +kernel
theorem dX1_send_131 : decode cX1_send 131 = .ok (.iload 5, 2) := by decide +kernel
theorem dX1_send_133 : decode cX1_send 133 = .ok (.ifCond .le 15, 3) := by decide +kernel
theorem dX1_send_136 : decode cX1_send 136 = .ok (.aload_n 0, 1) := by decide +kernel
theorem dX1_send_137 : decode cX1_send 137 = .ok (.getfield 15, 3) := by decide +kernel
theorem dX1_send_140 : decode cX1_send 140 = .ok (.iload_n 2, 1) := by decide +kernel
theorem dX1_send_141 : decode cX1_send 141 = .ok (.iconst 1, 1) := by decide +kernel
theorem dX1_send_142 : decode cX1_send 142 = .ok (.isub, 1) := by decide +kernel
theorem dX1_send_143 : decode cX1_send 143 = .ok (.dup2, 1) := by decide +kernel
theorem dX1_send_144 : decode cX1_send 144 = .ok (.iaload, 1) := by decide +kernel
theorem dX1_send_145 : decode cX1_send 145 = .ok (.iconst 1, 1) := by decide +kernel
theorem dX1_send_146 : decode cX1_send 146 = .ok (.isub, 1) := by decide +kernel
theorem dX1_send_147 : decode cX1_send 147 = .ok (.iastore, 1) := by decide +kernel
theorem dX1_send_148 : decode cX1_send 148 = .ok (.return_, 1) := by decide +kernel
theorem dX2_init_0 : decode cX2_init 0 = .ok (.aload_n 0, 1) := by decide +kernel
theorem dX2_init_1 : decode cX2_init 1 = .ok (.aload_n 1, 1) := by decide +kernel
theorem dX2_init_2 : decode cX2_init 2 = .ok (.invokespecial 3, 3) := by decide +kernel
theorem dX2_init_5 : decode cX2_init 5 = .ok (.return_, 1) := by decide +kernel
theorem dX2_kind_0 : decode cX2_kind 0 = .ok (.iconst 3, 1) := by decide +kernel
theorem dX2_kind_1 : decode cX2_kind 1 = .ok (.ireturn, 1) := by decide +kernel
theorem dX2_roundMinutes_0 : decode cX2_roundMinutes 0 = .ok (.iconst 1, 1) := by decide +kernel
theorem dX2_roundMinutes_1 : decode cX2_roundMinutes 1 = .ok (.ireturn, 1) := by decide +kernel
theorem dX2_endAt_0 : decode cX2_endAt 0 = .ok (.aload_n 0, 1) := by decide +kernel
theorem dX2_endAt_1 : decode cX2_endAt 1 = .ok (.iconst 0, 1) := by decide +kernel
theorem dX2_endAt_2 : decode cX2_endAt 2 = .ok (.invokevirtual 9, 3) := by decide +kernel
theorem dX2_endAt_5 : decode cX2_endAt 5 = .ok (.ireturn, 1) := by decide +kernel
theorem dX2_standsStill_0 : decode cX2_standsStill 0 = .ok (.sipush 999, 3) := by decide +kernel
theorem dX2_standsStill_3 : decode cX2_standsStill 3 = .ok (.ireturn, 1) := by decide +kernel
theorem dX3_init_0 : decode cX3_init 0 = .ok (.aload_n 0, 1) := by decide +kernel
theorem dX3_init_1 : decode cX3_init 1 = .ok (.aload_n 1, 1) := by decide +kernel
theorem dX3_init_2 : decode cX3_init 2 = .ok (.invokespecial 1, 3) := by decide +kernel
theorem dX3_init_5 : decode cX3_init 5 = .ok (.return_, 1) := by decide +kernel
theorem dX3_kind_0 : decode cX3_kind 0 = .ok (.iconst 1, 1) := by decide +kernel
theorem dX3_kind_1 : decode cX3_kind 1 = .ok (.ireturn, 1) := by decide +kernel
theorem dX3_turnMinutes_0 : decode cX3_turnMinutes 0 = .ok (.iload_n 1, 1) := by decide +kernel
theorem dX3_turnMinutes_1 : decode cX3_turnMinutes 1 = .ok (.ifCond .eq 12, 3) := by decide +kernel
theorem dX3_turnMinutes_4 : decode cX3_turnMinutes 4 = .ok (.iconst 2, 1) := by decide +kernel
theorem dX3_turnMinutes_5 : decode cX3_turnMinutes 5 = .ok (.aload_n 0, 1) := by decide +kernel
theorem dX3_turnMinutes_6 : decode cX3_turnMinutes 6 = .ok (.getfield 7, 3) := by decide +kernel
theorem dX3_turnMinutes_9 : decode cX3_turnMinutes 9 = .ok (.imul, 1) := by decide +kernel
theorem dX3_turnMinutes_10 : decode cX3_turnMinutes 10 = .ok (.goto 7, 3) := by decide +kernel
theorem dX3_turnMinutes_13 : decode cX3_turnMinutes 13 = .ok (.aload_n 0, 1) := by decide +kernel
theorem dX3_turnMinutes_14 : decode cX3_turnMinutes 14 = .ok (.getfield 7, 3) := by decide +kernel
theorem dX3_turnMinutes_17 : decode cX3_turnMinutes 17 = .ok (.ireturn, 1) := by decide +kernel
theorem dX4_init_0 : decode cX4_init 0 = .ok (.aload_n 0, 1) := by decide +kernel
theorem dX4_init_1 : decode cX4_init 1 = .ok (.invokespecial 3, 3) := by decide +kernel
theorem dX4_init_4 : decode cX4_init 4 = .ok (.aload_n 0, 1) := by decide +kernel
theorem dX4_init_5 : decode cX4_init 5 = .ok (.bipush 10, 2) := by decide +kernel
theorem dX4_init_7 : decode cX4_init 7 = .ok (.newarray .int, 2) := by decide +kernel
theorem dX4_init_9 : decode cX4_init 9 = .ok (.putfield 9, 3) := by decide +kernel
theorem dX4_init_12 : decode cX4_init 12 = .ok (.aload_n 0, 1) := by decide +kernel
theorem dX4_init_13 : decode cX4_init 13 = .ok (.new 15, 3) := by decide +kernel
theorem dX4_init_16 : decode cX4_init 16 = .ok (.dup, 1) := by decide +kernel
theorem dX4_init_17 : decode cX4_init 17 = .ok (.invokespecial 17, 3) := by decide +kernel
theorem dX4_init_20 : decode cX4_init 20 = .ok (.putfield 18, 3) := by decide +kernel
theorem dX4_init_23 : decode cX4_init 23 = .ok (.aload_n 0, 1) := by decide +kernel
theorem dX4_init_24 : decode cX4_init 24 = .ok (.iconst (-1), 1) := by decide +kernel
theorem dX4_init_25 : decode cX4_init 25 = .ok (.putfield 22, 3) := by decide +kernel
theorem dX4_init_28 : decode cX4_init 28 = .ok (.aload_n 0, 1) := by decide +kernel
theorem dX4_init_29 : decode cX4_init 29 = .ok (.iconst 0, 1) := by decide +kernel
theorem dX4_init_30 : decode cX4_init 30 = .ok (.putfield 26, 3) := by decide +kernel
theorem dX4_init_33 : decode cX4_init 33 = .ok (.return_, 1) := by decide +kernel
theorem dX4_isKept_0 : decode cX4_isKept 0 = .ok (.aload_n 0, 1) := by decide +kernel
theorem dX4_isKept_1 : decode cX4_isKept 1 = .ok (.getfield 22, 3) := by decide +kernel
theorem dX4_isKept_4 : decode cX4_isKept 4 = .ok (.iconst (-1), 1) := by decide +kernel
theorem dX4_isKept_5 : decode cX4_isKept 5 = .ok (.if_icmp .eq 7, 3) := by decide +kernel
theorem dX4_isKept_8 : decode cX4_isKept 8 = .ok (.iconst 1, 1) := by decide +kernel
theorem dX4_isKept_9 : decode cX4_isKept 9 = .ok (.goto 4, 3) := by decide +kernel
theorem dX4_isKept_12 : decode cX4_isKept 12 = .ok (.iconst 0, 1) := by decide +kernel
theorem dX4_isKept_13 : decode cX4_isKept 13 = .ok (.ireturn, 1) := by decide +kernel
theorem dX4_wasFrosty_0 : decode cX4_wasFrosty 0 = .ok (.aload_n 0, 1) := by decide +kernel
theorem dX4_wasFrosty_1 : decode cX4_wasFrosty 1 = .ok (.getfield 26, 3) := by decide +kernel
theorem dX4_wasFrosty_4 : decode cX4_wasFrosty 4 = .ok (.ireturn, 1) := by decide +kernel
theorem dX4_keep_0 : decode cX4_keep 0 = .ok (.aload_n 0, 1) := by decide +kernel
theorem dX4_keep_1 : decode cX4_keep 1 = .ok (.aload_n 1, 1) := by decide +kernel
theorem dX4_keep_2 : decode cX4_keep 2 = .ok (.invokevirtual 30, 3) := by decide +kernel
theorem dX4_keep_5 : decode cX4_keep 5 = .ok (.bipush 10, 2) := by decide +kernel
theorem dX4_keep_7 : decode cX4_keep 7 = .ok (.invokestatic 36, 3) := by decide +kernel
theorem dX4_keep_10 : decode cX4_keep 10 = .ok (.putfield 22, 3) := by decide +kernel
theorem dX4_keep_13 : decode cX4_keep 13 = .ok (.iconst 0, 1) := by decide +kernel
theorem dX4_keep_14 : decode cX4_keep 14 = .ok (.istore 4, 2) := by decide +kernel
theorem dX4_keep_16 : decode cX4_keep 16 = .ok (.iload 4, 2) := by decide +kernel
theorem dX4_keep_18 : decode cX4_keep 18 = .ok (.aload_n 0, 1) := by decide +kernel
theorem dX4_keep_19 : decode cX4_keep 19 = .ok (.getfield 22, 3) := by decide +kernel
theorem dX4_keep_22 : decode cX4_keep 22 = .ok (.if_icmp .ge 28, 3) := by decide +kernel
theorem dX4_keep_25 : decode cX4_keep 25 = .ok (.aload_n 0, 1) := by decide +kernel
theorem dX4_keep_26 : decode cX4_keep 26 = .ok (.getfield 9, 3) := by decide +kernel
theorem dX4_keep_29 : decode cX4_keep 29 = .ok (.iload 4, 2) := by decide +kernel
theorem dX4_keep_31 : decode cX4_keep 31 = .ok (.aload_n 1, 1) := by decide +kernel
theorem dX4_keep_32 : decode cX4_keep 32 = .ok (.iload 4, 2) := by decide +kernel
theorem dX4_keep_34 : decode cX4_keep 34 = .ok (.invokevirtual 42, 3) := by decide +kernel
theorem dX4_keep_37 : decode cX4_keep 37 = .ok (.checkcast 46, 3) := by decide +kernel
theorem dX4_keep_40 : decode cX4_keep 40 = .ok (.getfield 48, 3) := by decide +kernel
theorem dX4_keep_43 : decode cX4_keep 43 = .ok (.iastore, 1) := by decide +kernel
theorem dX4_keep_44 : decode cX4_keep 44 = .ok (.iinc 4 1, 3) := by decide +kernel
theorem dX4_keep_47 : decode cX4_keep 47 = .ok (.goto (-31), 3) := by decide +kernel
theorem dX4_keep_50 : decode cX4_keep 50 = .ok (.aload_n 0, 1) := by decide +kernel
theorem dX4_keep_51 : decode cX4_keep 51 = .ok (.iload_n 2, 1) := by decide +kernel
theorem dX4_keep_52 : decode cX4_keep 52 = .ok (.putfield 26, 3) := by decide +kernel
theorem dX4_keep_55 : decode cX4_keep 55 = .ok (.aload_n 0, 1) := by decide +kernel
theorem dX4_keep_56 : decode cX4_keep 56 = .ok (.getfield 18, 3) := by decide +kernel
theorem dX4_keep_59 : decode cX4_keep 59 = .ok (.aload_n 3, 1) := by decide +kernel
theorem dX4_keep_60 : decode cX4_keep 60 = .ok (.invokevirtual 51, 3) := by decide +kernel
theorem dX4_keep_63 : decode cX4_keep 63 = .ok (.return_, 1) := by decide +kernel
theorem dX4_giveBack_0 : decode cX4_giveBack 0 = .ok (.aload_n 1, 1) := by decide +kernel
theorem dX4_giveBack_1 : decode cX4_giveBack 1 = .ok (.invokevirtual 30, 3) := by decide +kernel
theorem dX4_giveBack_4 : decode cX4_giveBack 4 = .ok (.iconst 1, 1) := by decide +kernel
theorem dX4_giveBack_5 : decode cX4_giveBack 5 = .ok (.isub, 1) := by decide +kernel
theorem dX4_giveBack_6 : decode cX4_giveBack 6 = .ok (.istore_n 3, 1) := by decide +kernel
theorem dX4_giveBack_7 : decode cX4_giveBack 7 = .ok (.iload_n 3, 1) := by decide +kernel
theorem dX4_giveBack_8 : decode cX4_giveBack 8 = .ok (.ifCond .lt 23, 3) := by decide +kernel
theorem dX4_giveBack_11 : decode cX4_giveBack 11 = .ok (.iload_n 3, 1) := by decide +kernel
theorem dX4_giveBack_12 : decode cX4_giveBack 12 = .ok (.aload_n 0, 1) := by decide +kernel
theorem dX4_giveBack_13 : decode cX4_giveBack 13 = .ok (.getfield 22, 3) := by decide +kernel
theorem dX4_giveBack_16 : decode cX4_giveBack 16 = .ok (.if_icmp .lt 15, 3) := by decide +kernel
theorem dX4_giveBack_19 : decode cX4_giveBack 19 = .ok (.aload_n 1, 1) := by decide +kernel
theorem dX4_giveBack_20 : decode cX4_giveBack 20 = .ok (.iload_n 3, 1) := by decide +kernel
theorem dX4_giveBack_21 : decode cX4_giveBack 21 = .ok (.invokevirtual 55, 3) := by decide +kernel
theorem dX4_giveBack_24 : decode cX4_giveBack 24 = .ok (.pop, 1) := by decide +kernel
theorem dX4_giveBack_25 : decode cX4_giveBack 25 = .ok (.iinc 3 (-1), 3) := by decide +kernel
theorem dX4_giveBack_28 : decode cX4_giveBack 28 = .ok (.goto (-21), 3) := by decide +kernel
theorem dX4_giveBack_31 : decode cX4_giveBack 31 = .ok (.iconst 0, 1) := by decide +kernel
theorem dX4_giveBack_32 : decode cX4_giveBack 32 = .ok (.istore_n 3, 1) := by decide +kernel
theorem dX4_giveBack_33 : decode cX4_giveBack 33 = .ok (.iload_n 3, 1) := by decide +kernel
theorem dX4_giveBack_34 : decode cX4_giveBack 34 = .ok (.aload_n 1, 1) := by decide +kernel
theorem dX4_giveBack_35 : decode cX4_giveBack 35 = .ok (.invokevirtual 30, 3) := by decide +kernel
theorem dX4_giveBack_38 : decode cX4_giveBack 38 = .ok (.if_icmp .ge 32, 3) := by decide +kernel
theorem dX4_giveBack_41 : decode cX4_giveBack 41 = .ok (.iload_n 3, 1) := by decide +kernel
theorem dX4_giveBack_42 : decode cX4_giveBack 42 = .ok (.bipush 10, 2) := by decide +kernel
theorem dX4_giveBack_44 : decode cX4_giveBack 44 = .ok (.if_icmp .ge 26, 3) := by decide +kernel
theorem dX4_giveBack_47 : decode cX4_giveBack 47 = .ok (.aload_n 1, 1) := by decide +kernel
theorem dX4_giveBack_48 : decode cX4_giveBack 48 = .ok (.iload_n 3, 1) := by decide +kernel
theorem dX4_giveBack_49 : decode cX4_giveBack 49 = .ok (.invokevirtual 42, 3) := by decide +kernel
theorem dX4_giveBack_52 : decode cX4_giveBack 52 = .ok (.checkcast 46, 3) := by decide +kernel
theorem dX4_giveBack_55 : decode cX4_giveBack 55 = .ok (.aload_n 0, 1) := by decide +kernel
theorem dX4_giveBack_56 : decode cX4_giveBack 56 = .ok (.getfield 9, 3) := by decide +kernel
theorem dX4_giveBack_59 : decode cX4_giveBack 59 = .ok (.iload_n 3, 1) := by decide +kernel
theorem dX4_giveBack_60 : decode cX4_giveBack 60 = .ok (.iaload, 1) := by decide +kernel
theorem dX4_giveBack_61 : decode cX4_giveBack 61 = .ok (.putfield 48, 3) := by decide +kernel
theorem dX4_giveBack_64 : decode cX4_giveBack 64 = .ok (.iinc 3 1, 3) := by decide +kernel
theorem dX4_giveBack_67 : decode cX4_giveBack 67 = .ok (.goto (-34), 3) := by decide +kernel
theorem dX4_giveBack_70 : decode cX4_giveBack 70 = .ok (.aload_n 2, 1) := by decide +kernel
theorem dX4_giveBack_71 : decode cX4_giveBack 71 = .ok (.aload_n 0, 1) := by decide +kernel
theorem dX4_giveBack_72 : decode cX4_giveBack 72 = .ok (.getfield 18, 3) := by decide +kernel
theorem dX4_giveBack_75 : decode cX4_giveBack 75 = .ok (.invokevirtual 51, 3) := by decide +kernel
theorem dX4_giveBack_78 : decode cX4_giveBack 78 = .ok (.return_, 1) := by decide +kernel
theorem dX5_init_0 : decode cX5_init 0 = .ok (.aload_n 0, 1) := by decide +kernel
theorem dX5_init_1 : decode cX5_init 1 = .ok (.invokespecial 3, 3) := by decide +kernel
theorem dX5_init_4 : decode cX5_init 4 = .ok (.aload_n 0, 1) := by decide +kernel
theorem dX5_init_5 : decode cX5_init 5 = .ok (.bipush 24, 2) := by decide +kernel
theorem dX5_init_7 : decode cX5_init 7 = .ok (.newarray .int, 2) := by decide +kernel
theorem dX5_init_9 : decode cX5_init 9 = .ok (.putfield 11, 3) := by decide +kernel
theorem dX5_init_12 : decode cX5_init 12 = .ok (.aload_n 0, 1) := by decide +kernel
theorem dX5_init_13 : decode cX5_init 13 = .ok (.iconst 0, 1) := by decide +kernel
theorem dX5_init_14 : decode cX5_init 14 = .ok (.putfield 15, 3) := by decide +kernel
theorem dX5_init_17 : decode cX5_init 17 = .ok (.return_, 1) := by decide +kernel
theorem dX5_size_0 : decode cX5_size 0 = .ok (.aload_n 0, 1) := by decide +kernel
theorem dX5_size_1 : decode cX5_size 1 = .ok (.getfield 15, 3) := by decide +kernel
theorem dX5_size_4 : decode cX5_size 4 = .ok (.ireturn, 1) := by decide +kernel
theorem dX5_isFull_0 : decode cX5_isFull 0 = .ok (.aload_n 0, 1) := by decide +kernel
theorem dX5_isFull_1 : decode cX5_isFull 1 = .ok (.getfield 15, 3) := by decide +kernel
theorem dX5_isFull_4 : decode cX5_isFull 4 = .ok (.bipush 6, 2) := by decide +kernel
theorem dX5_isFull_6 : decode cX5_isFull 6 = .ok (.if_icmp .lt 7, 3) := by decide +kernel
theorem dX5_isFull_9 : decode cX5_isFull 9 = .ok (.iconst 1, 1) := by decide +kernel
theorem dX5_isFull_10 : decode cX5_isFull 10 = .ok (.goto 4, 3) := by decide +kernel
theorem dX5_isFull_13 : decode cX5_isFull 13 = .ok (.iconst 0, 1) := by decide +kernel
theorem dX5_isFull_14 : decode cX5_isFull 14 = .ok (.ireturn, 1) := by decide +kernel
theorem dX5_add_0 : decode cX5_add 0 = .ok (.aload_n 0, 1) := by decide +kernel
theorem dX5_add_1 : decode cX5_add 1 = .ok (.invokevirtual 19, 3) := by decide +kernel
theorem dX5_add_4 : decode cX5_add 4 = .ok (.ifCond .eq 8, 3) := by decide +kernel
theorem dX5_add_7 : decode cX5_add 7 = .ok (.aload_n 0, 1) := by decide +kernel
theorem dX5_add_8 : decode cX5_add 8 = .ok (.getfield 15, 3) := by decide +kernel
theorem dX5_add_11 : decode cX5_add 11 = .ok (.ireturn, 1) := by decide +kernel
theorem dX5_add_12 : decode cX5_add 12 = .ok (.aload_n 0, 1) := by decide +kernel
theorem dX5_add_13 : decode cX5_add 13 = .ok (.getfield 15, 3) := by decide +kernel
theorem dX5_add_16 : decode cX5_add 16 = .ok (.iconst 4, 1) := by decide +kernel
theorem dX5_add_17 : decode cX5_add 17 = .ok (.imul, 1) := by decide +kernel
theorem dX5_add_18 : decode cX5_add 18 = .ok (.istore 5, 2) := by decide +kernel
theorem dX5_add_20 : decode cX5_add 20 = .ok (.aload_n 0, 1) := by decide +kernel
theorem dX5_add_21 : decode cX5_add 21 = .ok (.getfield 11, 3) := by decide +kernel
theorem dX5_add_24 : decode cX5_add 24 = .ok (.iload 5, 2) := by decide +kernel
theorem dX5_add_26 : decode cX5_add 26 = .ok (.iconst 0, 1) := by decide +kernel
theorem dX5_add_27 : decode cX5_add 27 = .ok (.iadd, 1) := by decide +kernel
theorem dX5_add_28 : decode cX5_add 28 = .ok (.iload_n 1, 1) := by decide +kernel
theorem dX5_add_29 : decode cX5_add 29 = .ok (.iastore, 1) := by decide +kernel
theorem dX5_add_30 : decode cX5_add 30 = .ok (.aload_n 0, 1) := by decide +kernel
theorem dX5_add_31 : decode cX5_add 31 = .ok (.getfield 11, 3) := by decide +kernel
theorem dX5_add_34 : decode cX5_add 34 = .ok (.iload 5, 2) := by decide +kernel
theorem dX5_add_36 : decode cX5_add 36 = .ok (.iconst 1, 1) := by decide +kernel
theorem dX5_add_37 : decode cX5_add 37 = .ok (.iadd, 1) := by decide +kernel
theorem dX5_add_38 : decode cX5_add 38 = .ok (.iload_n 2, 1) := by decide +kernel
theorem dX5_add_39 : decode cX5_add 39 = .ok (.iastore, 1) := by decide +kernel
theorem dX5_add_40 : decode cX5_add 40 = .ok (.aload_n 0, 1) := by decide +kernel
theorem dX5_add_41 : decode cX5_add 41 = .ok (.getfield 11, 3) := by decide +kernel
theorem dX5_add_44 : decode cX5_add 44 = .ok (.iload 5, 2) := by decide +kernel
theorem dX5_add_46 : decode cX5_add 46 = .ok (.iconst 2, 1) := by decide +kernel
theorem dX5_add_47 : decode cX5_add 47 = .ok (.iadd, 1) := by decide +kernel
theorem dX5_add_48 : decode cX5_add 48 = .ok (.iload_n 3, 1) := by decide +kernel
theorem dX5_add_49 : decode cX5_add 49 = .ok (.iastore, 1) := by decide +kernel
theorem dX5_add_50 : decode cX5_add 50 = .ok (.aload_n 0, 1) := by decide +kernel
theorem dX5_add_51 : decode cX5_add 51 = .ok (.getfield 11, 3) := by decide +kernel
theorem dX5_add_54 : decode cX5_add 54 = .ok (.iload 5, 2) := by decide +kernel
theorem dX5_add_56 : decode cX5_add 56 = .ok (.iconst 3, 1) := by decide +kernel
theorem dX5_add_57 : decode cX5_add 57 = .ok (.iadd, 1) := by decide +kernel
theorem dX5_add_58 : decode cX5_add 58 = .ok (.iload 4, 2) := by decide +kernel
theorem dX5_add_60 : decode cX5_add 60 = .ok (.iastore, 1) := by decide +kernel
theorem dX5_add_61 : decode cX5_add 61 = .ok (.aload_n 0, 1) := by decide +kernel
theorem dX5_add_62 : decode cX5_add 62 = .ok (.dup, 1) := by decide +kernel
theorem dX5_add_63 : decode cX5_add 63 = .ok (.getfield 15, 3) := by decide +kernel
theorem dX5_add_66 : decode cX5_add 66 = .ok (.iconst 1, 1) := by decide +kernel
theorem dX5_add_67 : decode cX5_add 67 = .ok (.iadd, 1) := by decide +kernel
theorem dX5_add_68 : decode cX5_add 68 = .ok (.putfield 15, 3) := by decide +kernel
theorem dX5_add_71 : decode cX5_add 71 = .ok (.aload_n 0, 1) := by decide +kernel
theorem dX5_add_72 : decode cX5_add 72 = .ok (.getfield 15, 3) := by decide +kernel
theorem dX5_add_75 : decode cX5_add 75 = .ok (.ireturn, 1) := by decide +kernel
theorem dX5_part_0 : decode cX5_part 0 = .ok (.iload_n 1, 1) := by decide +kernel
theorem dX5_part_1 : decode cX5_part 1 = .ok (.ifCond .lt 24, 3) := by decide +kernel
theorem dX5_part_4 : decode cX5_part 4 = .ok (.iload_n 1, 1) := by decide +kernel
theorem dX5_part_5 : decode cX5_part 5 = .ok (.aload_n 0, 1) := by decide +kernel
theorem dX5_part_6 : decode cX5_part 6 = .ok (.getfield 15, 3) := by decide +kernel
theorem dX5_part_9 : decode cX5_part 9 = .ok (.if_icmp .ge 16, 3) := by decide +kernel
theorem dX5_part_12 : decode cX5_part 12 = .ok (.iload_n 2, 1) := by decide +kernel
theorem dX5_part_13 : decode cX5_part 13 = .ok (.ifCond .lt 12, 3) := by decide +kernel
theorem dX5_part_16 : decode cX5_part 16 = .ok (.iload_n 2, 1) := by decide +kernel
theorem dX5_part_17 : decode cX5_part 17 = .ok (.iconst 4, 1) := by decide +kernel
theorem dX5_part_18 : decode cX5_part 18 = .ok (.if_icmp .ge 7, 3) := by decide +kernel
theorem dX5_part_21 : decode cX5_part 21 = .ok (.iconst 1, 1) := by decide +kernel
theorem dX5_part_22 : decode cX5_part 22 = .ok (.goto 4, 3) := by decide +kernel
theorem dX5_part_25 : decode cX5_part 25 = .ok (.iconst 0, 1) := by decide +kernel
theorem dX5_part_26 : decode cX5_part 26 = .ok (.istore_n 3, 1) := by decide +kernel
theorem dX5_part_27 : decode cX5_part 27 = .ok (.iload_n 3, 1) := by decide +kernel
theorem dX5_part_28 : decode cX5_part 28 = .ok (.ifCond .eq 16, 3) := by decide +kernel
theorem dX5_part_31 : decode cX5_part 31 = .ok (.aload_n 0, 1) := by decide +kernel
theorem dX5_part_32 : decode cX5_part 32 = .ok (.getfield 11, 3) := by decide +kernel
theorem dX5_part_35 : decode cX5_part 35 = .ok (.iload_n 1, 1) := by decide +kernel
theorem dX5_part_36 : decode cX5_part 36 = .ok (.iconst 4, 1) := by decide +kernel
theorem dX5_part_37 : decode cX5_part 37 = .ok (.imul, 1) := by decide +kernel
theorem dX5_part_38 : decode cX5_part 38 = .ok (.iload_n 2, 1) := by decide +kernel
theorem dX5_part_39 : decode cX5_part 39 = .ok (.iadd, 1) := by decide +kernel
theorem dX5_part_40 : decode cX5_part 40 = .ok (.iaload, 1) := by decide +kernel
theorem dX5_part_41 : decode cX5_part 41 = .ok (.goto 4, 3) := by decide +kernel
theorem dX5_part_44 : decode cX5_part 44 = .ok (.iconst (-1), 1) := by decide +kernel
theorem dX5_part_45 : decode cX5_part 45 = .ok (.ireturn, 1) := by decide +kernel
theorem dX5_empty_0 : decode cX5_empty 0 = .ok (.aload_n 0, 1) := by decide +kernel
theorem dX5_empty_1 : decode cX5_empty 1 = .ok (.getfield 15, 3) := by decide +kernel
theorem dX5_empty_4 : decode cX5_empty 4 = .ok (.istore_n 1, 1) := by decide +kernel
theorem dX5_empty_5 : decode cX5_empty 5 = .ok (.aload_n 0, 1) := by decide +kernel
theorem dX5_empty_6 : decode cX5_empty 6 = .ok (.iconst 0, 1) := by decide +kernel
theorem dX5_empty_7 : decode cX5_empty 7 = .ok (.putfield 15, 3) := by decide +kernel
theorem dX5_empty_10 : decode cX5_empty 10 = .ok (.iload_n 1, 1) := by decide +kernel
theorem dX5_empty_11 : decode cX5_empty 11 = .ok (.ireturn, 1) := by decide +kernel
theorem dX5_becomeLike_0 : decode cX5_becomeLike 0 = .ok (.aload_n 1, 1) := by decide +kernel
theorem dX5_becomeLike_1 : decode cX5_becomeLike 1 = .ok (.getfield 11, 3) := by decide +kernel
theorem dX5_becomeLike_4 : decode cX5_becomeLike 4 = .ok (.iconst 0, 1) := by decide +kernel
theorem dX5_becomeLike_5 : decode cX5_becomeLike 5 = .ok (.aload_n 0, 1) := by decide +kernel
theorem dX5_becomeLike_6 : decode cX5_becomeLike 6 = .ok (.getfield 11, 3) := by decide +kernel
theorem dX5_becomeLike_9 : decode cX5_becomeLike 9 = .ok (.iconst 0, 1) := by decide +kernel
theorem dX5_becomeLike_10 : decode cX5_becomeLike 10 = .ok (.aload_n 0, 1) := by decide +kernel
theorem dX5_becomeLike_11 : decode cX5_becomeLike 11 = .ok (.getfield 11, 3) := by decide +kernel
theorem dX5_becomeLike_14 : decode cX5_becomeLike 14 = .ok (.arraylength, 1) := by decide +kernel
theorem dX5_becomeLike_15 : decode cX5_becomeLike 15 = .ok (.invokestatic 23, 3) := by decide +kernel
theorem dX5_becomeLike_18 : decode cX5_becomeLike 18 = .ok (.aload_n 0, 1) := by decide +kernel
theorem dX5_becomeLike_19 : decode cX5_becomeLike 19 = .ok (.aload_n 1, 1) := by decide +kernel
theorem dX5_becomeLike_20 : decode cX5_becomeLike 20 = .ok (.getfield 15, 3) := by decide +kernel
theorem dX5_becomeLike_23 : decode cX5_becomeLike 23 = .ok (.putfield 15, 3) := by decide +kernel
theorem dX5_becomeLike_26 : decode cX5_becomeLike 26 = .ok (.return_, 1) := by decide +kernel
theorem dX6_init_0 : decode cX6_init 0 = .ok (.aload_n 0, 1) := by decide +kernel
theorem dX6_init_1 : decode cX6_init 1 = .ok (.invokespecial 3, 3) := by decide +kernel
theorem dX6_init_4 : decode cX6_init 4 = .ok (.aload_n 0, 1) := by decide +kernel
theorem dX6_init_5 : decode cX6_init 5 = .ok (.bipush 20, 2) := by decide +kernel
theorem dX6_init_7 : decode cX6_init 7 = .ok (.newarray .int, 2) := by decide +kernel
theorem dX6_init_9 : decode cX6_init 9 = .ok (.putfield 9, 3) := by decide +kernel
theorem dX6_init_12 : decode cX6_init 12 = .ok (.aload_n 0, 1) := by decide +kernel
theorem dX6_init_13 : decode cX6_init 13 = .ok (.iconst 0, 1) := by decide +kernel
theorem dX6_init_14 : decode cX6_init 14 = .ok (.putfield 15, 3) := by decide +kernel
theorem dX6_init_17 : decode cX6_init 17 = .ok (.return_, 1) := by decide +kernel
theorem dX6_size_0 : decode cX6_size 0 = .ok (.aload_n 0, 1) := by decide +kernel
theorem dX6_size_1 : decode cX6_size 1 = .ok (.getfield 15, 3) := by decide +kernel
theorem dX6_size_4 : decode cX6_size 4 = .ok (.ireturn, 1) := by decide +kernel
theorem dX6_hasRoom_0 : decode cX6_hasRoom 0 = .ok (.aload_n 0, 1) := by decide +kernel
theorem dX6_hasRoom_1 : decode cX6_hasRoom 1 = .ok (.getfield 15, 3) := by decide +kernel
theorem dX6_hasRoom_4 : decode cX6_hasRoom 4 = .ok (.iload_n 1, 1) := by decide +kernel
theorem dX6_hasRoom_5 : decode cX6_hasRoom 5 = .ok (.iadd, 1) := by decide +kernel
theorem dX6_hasRoom_6 : decode cX6_hasRoom 6 = .ok (.aload_n 0, 1) := by decide +kernel
theorem dX6_hasRoom_7 : decode cX6_hasRoom 7 = .ok (.getfield 9, 3) := by decide +kernel
theorem dX6_hasRoom_10 : decode cX6_hasRoom 10 = .ok (.arraylength, 1) := by decide +kernel
theorem dX6_hasRoom_11 : decode cX6_hasRoom 11 = .ok (.if_icmp .gt 7, 3) := by decide +kernel
theorem dX6_hasRoom_14 : decode cX6_hasRoom 14 = .ok (.iconst 1, 1) := by decide +kernel
theorem dX6_hasRoom_15 : decode cX6_hasRoom 15 = .ok (.goto 4, 3) := by decide +kernel
theorem dX6_hasRoom_18 : decode cX6_hasRoom 18 = .ok (.iconst 0, 1) := by decide +kernel
theorem dX6_hasRoom_19 : decode cX6_hasRoom 19 = .ok (.ireturn, 1) := by decide +kernel
theorem dX6_append_0 : decode cX6_append 0 = .ok (.aload_n 0, 1) := by decide +kernel
theorem dX6_append_1 : decode cX6_append 1 = .ok (.getfield 15, 3) := by decide +kernel
theorem dX6_append_4 : decode cX6_append 4 = .ok (.aload_n 0, 1) := by decide +kernel
theorem dX6_append_5 : decode cX6_append 5 = .ok (.getfield 9, 3) := by decide +kernel
theorem dX6_append_8 : decode cX6_append 8 = .ok (.arraylength, 1) := by decide +kernel
theorem dX6_append_9 : decode cX6_append 9 = .ok (.if_icmp .ge 20, 3) := by decide +kernel
theorem dX6_append_12 : decode cX6_append 12 = .ok (.aload_n 0, 1) := by decide +kernel
theorem dX6_append_13 : decode cX6_append 13 = .ok (.getfield 9, 3) := by decide +kernel
theorem dX6_append_16 : decode cX6_append 16 = .ok (.aload_n 0, 1) := by decide +kernel
theorem dX6_append_17 : decode cX6_append 17 = .ok (.dup, 1) := by decide +kernel
theorem dX6_append_18 : decode cX6_append 18 = .ok (.getfield 15, 3) := by decide +kernel
theorem dX6_append_21 : decode cX6_append 21 = .ok (.dup_x1, 1) := by decide +kernel
theorem dX6_append_22 : decode cX6_append 22 = .ok (.iconst 1, 1) := by decide +kernel
theorem dX6_append_23 : decode cX6_append 23 = .ok (.iadd, 1) := by decide +kernel
theorem dX6_append_24 : decode cX6_append 24 = .ok (.putfield 15, 3) := by decide +kernel
theorem dX6_append_27 : decode cX6_append 27 = .ok (.iload_n 1, 1) := by decide +kernel
theorem dX6_append_28 : decode cX6_append 28 = .ok (.iastore, 1) := by decide +kernel
theorem dX6_append_29 : decode cX6_append 29 = .ok (.return_, 1) := by decide +kernel
theorem dX6_empty_0 : decode cX6_empty 0 = .ok (.aload_n 0, 1) := by decide +kernel
theorem dX6_empty_1 : decode cX6_empty 1 = .ok (.getfield 15, 3) := by decide +kernel
theorem dX6_empty_4 : decode cX6_empty 4 = .ok (.istore_n 1, 1) := by decide +kernel
theorem dX6_empty_5 : decode cX6_empty 5 = .ok (.aload_n 0, 1) := by decide +kernel
theorem dX6_empty_6 : decode cX6_empty 6 = .ok (.iconst 0, 1) := by decide +kernel
theorem dX6_empty_7 : decode cX6_empty 7 = .ok (.putfield 15, 3) := by decide +kernel
theorem dX6_empty_10 : decode cX6_empty 10 = .ok (.iload_n 1, 1) := by decide +kernel
theorem dX6_empty_11 : decode cX6_empty 11 = .ok (.ireturn, 1) := by decide +kernel
theorem dX6_codeAt_0 : decode cX6_codeAt 0 = .ok (.iload_n 1, 1) := by decide +kernel
theorem dX6_codeAt_1 : decode cX6_codeAt 1 = .ok (.ifCond .lt 20, 3) := by decide +kernel
theorem dX6_codeAt_4 : decode cX6_codeAt 4 = .ok (.iload_n 1, 1) := by decide +kernel
theorem dX6_codeAt_5 : decode cX6_codeAt 5 = .ok (.aload_n 0, 1) := by decide +kernel
theorem dX6_codeAt_6 : decode cX6_codeAt 6 = .ok (.getfield 15, 3) := by decide +kernel
theorem dX6_codeAt_9 : decode cX6_codeAt 9 = .ok (.if_icmp .ge 12, 3) := by decide +kernel
theorem dX6_codeAt_12 : decode cX6_codeAt 12 = .ok (.aload_n 0, 1) := by decide +kernel
theorem dX6_codeAt_13 : decode cX6_codeAt 13 = .ok (.getfield 9, 3) := by decide +kernel
theorem dX6_codeAt_16 : decode cX6_codeAt 16 = .ok (.iload_n 1, 1) := by decide +kernel
theorem dX6_codeAt_17 : decode cX6_codeAt 17 = .ok (.iaload, 1) := by decide +kernel
theorem dX6_codeAt_18 : decode cX6_codeAt 18 = .ok (.goto 4, 3) := by decide +kernel
theorem dX6_codeAt_21 : decode cX6_codeAt 21 = .ok (.iconst 0, 1) := by decide +kernel
theorem dX6_codeAt_22 : decode cX6_codeAt 22 = .ok (.ireturn, 1) := by decide +kernel
theorem dX6_readBy_0 : decode cX6_readBy 0 = .ok (.aload_n 1, 1) := by decide +kernel
theorem dX6_readBy_1 : decode cX6_readBy 1 = .ok (.invokevirtual 19, 3) := by decide +kernel
theorem dX6_readBy_4 : decode cX6_readBy 4 = .ok (.iconst 0, 1) := by decide +kernel
theorem dX6_readBy_5 : decode cX6_readBy 5 = .ok (.istore_n 2, 1) := by decide +kernel
theorem dX6_readBy_6 : decode cX6_readBy 6 = .ok (.iload_n 2, 1) := by decide +kernel
theorem dX6_readBy_7 : decode cX6_readBy 7 = .ok (.aload_n 0, 1) := by decide +kernel
theorem dX6_readBy_8 : decode cX6_readBy 8 = .ok (.getfield 15, 3) := by decide +kernel
theorem dX6_readBy_11 : decode cX6_readBy 11 = .ok (.if_icmp .ge 24, 3) := by decide +kernel
theorem dX6_readBy_14 : decode cX6_readBy 14 = .ok (.aload_n 1, 1) := by decide +kernel
theorem dX6_readBy_15 : decode cX6_readBy 15 = .ok (.aload_n 0, 1) := by decide +kernel
theorem dX6_readBy_16 : decode cX6_readBy 16 = .ok (.getfield 9, 3) := by decide +kernel
theorem dX6_readBy_19 : decode cX6_readBy 19 = .ok (.iload_n 2, 1) := by decide +kernel
theorem dX6_readBy_20 : decode cX6_readBy 20 = .ok (.iaload, 1) := by decide +kernel
theorem dX6_readBy_21 : decode cX6_readBy 21 = .ok (.invokevirtual 24, 3) := by decide +kernel
theorem dX6_readBy_24 : decode cX6_readBy 24 = .ok (.ifCond .ne 5, 3) := by decide +kernel
theorem dX6_readBy_27 : decode cX6_readBy 27 = .ok (.iload_n 2, 1) := by decide +kernel
theorem dX6_readBy_28 : decode cX6_readBy 28 = .ok (.ireturn, 1) := by decide +kernel
theorem dX6_readBy_29 : decode cX6_readBy 29 = .ok (.iinc 2 1, 3) := by decide +kernel
theorem dX6_readBy_32 : decode cX6_readBy 32 = .ok (.goto (-26), 3) := by decide +kernel
theorem dX6_readBy_35 : decode cX6_readBy 35 = .ok (.aload_n 0, 1) := by decide +kernel
theorem dX6_readBy_36 : decode cX6_readBy 36 = .ok (.getfield 15, 3) := by decide +kernel
theorem dX6_readBy_39 : decode cX6_readBy 39 = .ok (.ireturn, 1) := by decide +kernel
theorem dX7_init_0 : decode cX7_init 0 = .ok (.aload_n 0, 1) := by decide +kernel
theorem dX7_init_1 : decode cX7_init 1 = .ok (.invokespecial 3, 3) := by decide +kernel
theorem dX7_init_4 : decode cX7_init 4 = .ok (.aload_n 0, 1) := by decide +kernel
theorem dX7_init_5 : decode cX7_init 5 = .ok (.iconst 3, 1) := by decide +kernel
theorem dX7_init_6 : decode cX7_init 6 = .ok (.newarray .int, 2) := by decide +kernel
theorem dX7_init_8 : decode cX7_init 8 = .ok (.putfield 9, 3) := by decide +kernel
theorem dX7_init_11 : decode cX7_init 11 = .ok (.return_, 1) := by decide +kernel
theorem dX7_begin_0 : decode cX7_begin 0 = .ok (.aload_n 0, 1) := by decide +kernel
theorem dX7_begin_1 : decode cX7_begin 1 = .ok (.iconst 0, 1) := by decide +kernel
theorem dX7_begin_2 : decode cX7_begin 2 = .ok (.putfield 15, 3) := by decide +kernel
theorem dX7_begin_5 : decode cX7_begin 5 = .ok (.aload_n 0, 1) := by decide +kernel
theorem dX7_begin_6 : decode cX7_begin 6 = .ok (.iconst 0, 1) := by decide +kernel
theorem dX7_begin_7 : decode cX7_begin 7 = .ok (.putfield 19, 3) := by decide +kernel
theorem dX7_begin_10 : decode cX7_begin 10 = .ok (.aload_n 0, 1) := by decide +kernel
theorem dX7_begin_11 : decode cX7_begin 11 = .ok (.iconst 0, 1) := by decide +kernel
theorem dX7_begin_12 : decode cX7_begin 12 = .ok (.putfield 22, 3) := by decide +kernel
theorem dX7_begin_15 : decode cX7_begin 15 = .ok (.aload_n 0, 1) := by decide +kernel
theorem dX7_begin_16 : decode cX7_begin 16 = .ok (.bipush 9, 2) := by decide +kernel
theorem dX7_begin_18 : decode cX7_begin 18 = .ok (.putfield 25, 3) := by decide +kernel
theorem dX7_begin_21 : decode cX7_begin 21 = .ok (.return_, 1) := by decide +kernel
theorem dX7_isWhole_0 : decode cX7_isWhole 0 = .ok (.aload_n 0, 1) := by decide +kernel
theorem dX7_isWhole_1 : decode cX7_isWhole 1 = .ok (.getfield 15, 3) := by decide +kernel
theorem dX7_isWhole_4 : decode cX7_isWhole 4 = .ok (.bipush 9, 2) := by decide +kernel
theorem dX7_isWhole_6 : decode cX7_isWhole 6 = .ok (.if_icmp .eq 12, 3) := by decide +kernel
theorem dX7_isWhole_9 : decode cX7_isWhole 9 = .ok (.aload_n 0, 1) := by decide +kernel
theorem dX7_isWhole_10 : decode cX7_isWhole 10 = .ok (.getfield 15, 3) := by decide +kernel
theorem dX7_isWhole_13 : decode cX7_isWhole 13 = .ok (.bipush 11, 2) := by decide +kernel
theorem dX7_isWhole_15 : decode cX7_isWhole 15 = .ok (.if_icmp .ne 7, 3) := by decide +kernel
theorem dX7_isWhole_18 : decode cX7_isWhole 18 = .ok (.iconst 1, 1) := by decide +kernel
theorem dX7_isWhole_19 : decode cX7_isWhole 19 = .ok (.goto 4, 3) := by decide +kernel
theorem dX7_isWhole_22 : decode cX7_isWhole 22 = .ok (.iconst 0, 1) := by decide +kernel
theorem dX7_isWhole_23 : decode cX7_isWhole 23 = .ok (.ireturn, 1) := by decide +kernel
theorem dX7_takes_0 : decode cX7_takes 0 = .ok (.aload_n 0, 1) := by decide +kernel
theorem dX7_takes_1 : decode cX7_takes 1 = .ok (.getfield 15, 3) := by decide +kernel
theorem dX7_takes_4 : decode cX7_takes 4 = .ok (.tableswitch 157 0 10 #[60, 82, 88, 96, 151, 127, 151, 135, 151, 143, 151], 60) := by decide +kernel
theorem dX7_takes_64 : decode cX7_takes 64 = .ok (.aload_n 0, 1) := by decide +kernel
theorem dX7_takes_65 : decode cX7_takes 65 = .ok (.iload_n 1, 1) := by decide +kernel
theorem dX7_takes_66 : decode cX7_takes 66 = .ok (.invokevirtual 28, 3) := by decide +kernel
theorem dX7_takes_69 : decode cX7_takes 69 = .ok (.ifCond .ne 11, 3) := by decide +kernel
theorem dX7_takes_72 : decode cX7_takes 72 = .ok (.aload_n 0, 1) := by decide +kernel
theorem dX7_takes_73 : decode cX7_takes 73 = .ok (.iload_n 1, 1) := by decide +kernel
theorem dX7_takes_74 : decode cX7_takes 74 = .ok (.invokevirtual 32, 3) := by decide +kernel
theorem dX7_takes_77 : decode cX7_takes 77 = .ok (.ifCond .eq 7, 3) := by decide +kernel
theorem dX7_takes_80 : decode cX7_takes 80 = .ok (.iconst 1, 1) := by decide +kernel
theorem dX7_takes_81 : decode cX7_takes 81 = .ok (.goto 4, 3) := by decide +kernel
theorem dX7_takes_84 : decode cX7_takes 84 = .ok (.iconst 0, 1) := by decide +kernel
theorem dX7_takes_85 : decode cX7_takes 85 = .ok (.ireturn, 1) := by decide +kernel
theorem dX7_takes_86 : decode cX7_takes 86 = .ok (.aload_n 0, 1) := by decide +kernel
theorem dX7_takes_87 : decode cX7_takes 87 = .ok (.iload_n 1, 1) := by decide +kernel
theorem dX7_takes_88 : decode cX7_takes 88 = .ok (.invokevirtual 32, 3) := by decide +kernel
theorem dX7_takes_91 : decode cX7_takes 91 = .ok (.ireturn, 1) := by decide +kernel
theorem dX7_takes_92 : decode cX7_takes 92 = .ok (.aload_n 0, 1) := by decide +kernel
theorem dX7_takes_93 : decode cX7_takes 93 = .ok (.iload_n 1, 1) := by decide +kernel
theorem dX7_takes_94 : decode cX7_takes 94 = .ok (.bipush 58, 2) := by decide +kernel
theorem dX7_takes_96 : decode cX7_takes 96 = .ok (.invokevirtual 35, 3) := by decide +kernel
theorem dX7_takes_99 : decode cX7_takes 99 = .ok (.ireturn, 1) := by decide +kernel
theorem dX7_takes_100 : decode cX7_takes 100 = .ok (.aload_n 0, 1) := by decide +kernel
theorem dX7_takes_101 : decode cX7_takes 101 = .ok (.iload_n 1, 1) := by decide +kernel
theorem dX7_takes_102 : decode cX7_takes 102 = .ok (.invokevirtual 39, 3) := by decide +kernel
theorem dX7_takes_105 : decode cX7_takes 105 = .ok (.ifCond .ne 20, 3) := by decide +kernel
theorem dX7_takes_108 : decode cX7_takes 108 = .ok (.aload_n 0, 1) := by decide +kernel
theorem dX7_takes_109 : decode cX7_takes 109 = .ok (.getfield 22, 3) := by decide +kernel
theorem dX7_takes_112 : decode cX7_takes 112 = .ok (.ifCond .le 17, 3) := by decide +kernel
theorem dX7_takes_115 : decode cX7_takes 115 = .ok (.aload_n 0, 1) := by decide +kernel
theorem dX7_takes_116 : decode cX7_takes 116 = .ok (.iload_n 1, 1) := by decide +kernel
theorem dX7_takes_117 : decode cX7_takes 117 = .ok (.bipush 44, 2) := by decide +kernel
theorem dX7_takes_119 : decode cX7_takes 119 = .ok (.invokevirtual 35, 3) := by decide +kernel
theorem dX7_takes_122 : decode cX7_takes 122 = .ok (.ifCond .eq 7, 3) := by decide +kernel
theorem dX7_takes_125 : decode cX7_takes 125 = .ok (.iconst 1, 1) := by decide +kernel
theorem dX7_takes_126 : decode cX7_takes 126 = .ok (.goto 4, 3) := by decide +kernel
theorem dX7_takes_129 : decode cX7_takes 129 = .ok (.iconst 0, 1) := by decide +kernel
theorem dX7_takes_130 : decode cX7_takes 130 = .ok (.ireturn, 1) := by decide +kernel
theorem dX7_takes_131 : decode cX7_takes 131 = .ok (.aload_n 0, 1) := by decide +kernel
theorem dX7_takes_132 : decode cX7_takes 132 = .ok (.iload_n 1, 1) := by decide +kernel
theorem dX7_takes_133 : decode cX7_takes 133 = .ok (.bipush 47, 2) := by decide +kernel
theorem dX7_takes_135 : decode cX7_takes 135 = .ok (.invokevirtual 35, 3) := by decide +kernel
theorem dX7_takes_138 : decode cX7_takes 138 = .ok (.ireturn, 1) := by decide +kernel
theorem dX7_takes_139 : decode cX7_takes 139 = .ok (.aload_n 0, 1) := by decide +kernel
theorem dX7_takes_140 : decode cX7_takes 140 = .ok (.iload_n 1, 1) := by decide +kernel
theorem dX7_takes_141 : decode cX7_takes 141 = .ok (.bipush 43, 2) := by decide +kernel
theorem dX7_takes_143 : decode cX7_takes 143 = .ok (.invokevirtual 35, 3) := by decide +kernel
theorem dX7_takes_146 : decode cX7_takes 146 = .ok (.ireturn, 1) := by decide +kernel
theorem dX7_takes_147 : decode cX7_takes 147 = .ok (.aload_n 0, 1) := by decide +kernel
theorem dX7_takes_148 : decode cX7_takes 148 = .ok (.iload_n 1, 1) := by decide +kernel
theorem dX7_takes_149 : decode cX7_takes 149 = .ok (.bipush 119, 2) := by decide +kernel
theorem dX7_takes_151 : decode cX7_takes 151 = .ok (.invokevirtual 35, 3) := by decide +kernel
theorem dX7_takes_154 : decode cX7_takes 154 = .ok (.ireturn, 1) := by decide +kernel
theorem dX7_takes_155 : decode cX7_takes 155 = .ok (.aload_n 0, 1) := by decide +kernel
theorem dX7_takes_156 : decode cX7_takes 156 = .ok (.iload_n 1, 1) := by decide +kernel
theorem dX7_takes_157 : decode cX7_takes 157 = .ok (.invokevirtual 42, 3) := by decide +kernel
theorem dX7_takes_160 : decode cX7_takes 160 = .ok (.ireturn, 1) := by decide +kernel
theorem dX7_takes_161 : decode cX7_takes 161 = .ok (.iconst 0, 1) := by decide +kernel
theorem dX7_takes_162 : decode cX7_takes 162 = .ok (.ireturn, 1) := by decide +kernel
theorem dX7_takesSign_0 : decode cX7_takesSign 0 = .ok (.iload_n 1, 1) := by decide +kernel
theorem dX7_takesSign_1 : decode cX7_takesSign 1 = .ok (.lookupswitch 59 #[(42, 35), (61, 51), (126, 43)], 35) := by decide +kernel
theorem dX7_takesSign_36 : decode cX7_takesSign 36 = .ok (.aload_n 0, 1) := by decide +kernel
theorem dX7_takesSign_37 : decode cX7_takesSign 37 = .ok (.iconst 1, 1) := by decide +kernel
theorem dX7_takesSign_38 : decode cX7_takesSign 38 = .ok (.putfield 19, 3) := by decide +kernel
theorem dX7_takesSign_41 : decode cX7_takesSign 41 = .ok (.goto 21, 3) := by decide +kernel
theorem dX7_takesSign_44 : decode cX7_takesSign 44 = .ok (.aload_n 0, 1) := by decide +kernel
theorem dX7_takesSign_45 : decode cX7_takesSign 45 = .ok (.iconst 2, 1) := by decide +kernel
theorem dX7_takesSign_46 : decode cX7_takesSign 46 = .ok (.putfield 19, 3) := by decide +kernel
theorem dX7_takesSign_49 : decode cX7_takesSign 49 = .ok (.goto 13, 3) := by decide +kernel
theorem dX7_takesSign_52 : decode cX7_takesSign 52 = .ok (.aload_n 0, 1) := by decide +kernel
theorem dX7_takesSign_53 : decode cX7_takesSign 53 = .ok (.iconst 3, 1) := by decide +kernel
theorem dX7_takesSign_54 : decode cX7_takesSign 54 = .ok (.putfield 19, 3) := by decide +kernel
theorem dX7_takesSign_57 : decode cX7_takesSign 57 = .ok (.goto 5, 3) := by decide +kernel
theorem dX7_takesSign_60 : decode cX7_takesSign 60 = .ok (.iconst 0, 1) := by decide +kernel
theorem dX7_takesSign_61 : decode cX7_takesSign 61 = .ok (.ireturn, 1) := by decide +kernel
theorem dX7_takesSign_62 : decode cX7_takesSign 62 = .ok (.aload_n 0, 1) := by decide +kernel
theorem dX7_takesSign_63 : decode cX7_takesSign 63 = .ok (.iconst 1, 1) := by decide +kernel
theorem dX7_takesSign_64 : decode cX7_takesSign 64 = .ok (.putfield 15, 3) := by decide +kernel
theorem dX7_takesSign_67 : decode cX7_takesSign 67 = .ok (.iconst 1, 1) := by decide +kernel
theorem dX7_takesSign_68 : decode cX7_takesSign 68 = .ok (.ireturn, 1) := by decide +kernel
theorem dX7_takesPivot_0 : decode cX7_takesPivot 0 = .ok (.iload_n 1, 1) := by decide +kernel
theorem dX7_takesPivot_1 : decode cX7_takesPivot 1 = .ok (.bipush 97, 2) := by decide +kernel
theorem dX7_takesPivot_3 : decode cX7_takesPivot 3 = .ok (.isub, 1) := by decide +kernel
theorem dX7_takesPivot_4 : decode cX7_takesPivot 4 = .ok (.invokestatic 45, 3) := by decide +kernel
theorem dX7_takesPivot_7 : decode cX7_takesPivot 7 = .ok (.ifCond .ne 5, 3) := by decide +kernel
theorem dX7_takesPivot_10 : decode cX7_takesPivot 10 = .ok (.iconst 0, 1) := by decide +kernel
theorem dX7_takesPivot_11 : decode cX7_takesPivot 11 = .ok (.ireturn, 1) := by decide +kernel
theorem dX7_takesPivot_12 : decode cX7_takesPivot 12 = .ok (.aload_n 0, 1) := by decide +kernel
theorem dX7_takesPivot_13 : decode cX7_takesPivot 13 = .ok (.iload_n 1, 1) := by decide +kernel
theorem dX7_takesPivot_14 : decode cX7_takesPivot 14 = .ok (.bipush 97, 2) := by decide +kernel
theorem dX7_takesPivot_16 : decode cX7_takesPivot 16 = .ok (.isub, 1) := by decide +kernel
theorem dX7_takesPivot_17 : decode cX7_takesPivot 17 = .ok (.putfield 48, 3) := by decide +kernel
theorem dX7_takesPivot_20 : decode cX7_takesPivot 20 = .ok (.aload_n 0, 1) := by decide +kernel
theorem dX7_takesPivot_21 : decode cX7_takesPivot 21 = .ok (.iconst 2, 1) := by decide +kernel
theorem dX7_takesPivot_22 : decode cX7_takesPivot 22 = .ok (.putfield 15, 3) := by decide +kernel
theorem dX7_takesPivot_25 : decode cX7_takesPivot 25 = .ok (.iconst 1, 1) := by decide +kernel
theorem dX7_takesPivot_26 : decode cX7_takesPivot 26 = .ok (.ireturn, 1) := by decide +kernel
theorem dX7_takesMark_0 : decode cX7_takesMark 0 = .ok (.iload_n 1, 1) := by decide +kernel
theorem dX7_takesMark_1 : decode cX7_takesMark 1 = .ok (.iload_n 2, 1) := by decide +kernel
theorem dX7_takesMark_2 : decode cX7_takesMark 2 = .ok (.if_icmp .eq 5, 3) := by decide +kernel
theorem dX7_takesMark_5 : decode cX7_takesMark 5 = .ok (.iconst 0, 1) := by decide +kernel
theorem dX7_takesMark_6 : decode cX7_takesMark 6 = .ok (.ireturn, 1) := by decide +kernel
theorem dX7_takesMark_7 : decode cX7_takesMark 7 = .ok (.aload_n 0, 1) := by decide +kernel
theorem dX7_takesMark_8 : decode cX7_takesMark 8 = .ok (.dup, 1) := by decide +kernel
theorem dX7_takesMark_9 : decode cX7_takesMark 9 = .ok (.getfield 15, 3) := by decide +kernel
theorem dX7_takesMark_12 : decode cX7_takesMark 12 = .ok (.iconst 1, 1) := by decide +kernel
theorem dX7_takesMark_13 : decode cX7_takesMark 13 = .ok (.iadd, 1) := by decide +kernel
theorem dX7_takesMark_14 : decode cX7_takesMark 14 = .ok (.putfield 15, 3) := by decide +kernel
theorem dX7_takesMark_17 : decode cX7_takesMark 17 = .ok (.iconst 1, 1) := by decide +kernel
theorem dX7_takesMark_18 : decode cX7_takesMark 18 = .ok (.ireturn, 1) := by decide +kernel
theorem dX7_takesEnd_0 : decode cX7_takesEnd 0 = .ok (.iload_n 1, 1) := by decide +kernel
theorem dX7_takesEnd_1 : decode cX7_takesEnd 1 = .ok (.bipush 97, 2) := by decide +kernel
theorem dX7_takesEnd_3 : decode cX7_takesEnd 3 = .ok (.isub, 1) := by decide +kernel
theorem dX7_takesEnd_4 : decode cX7_takesEnd 4 = .ok (.istore_n 2, 1) := by decide +kernel
theorem dX7_takesEnd_5 : decode cX7_takesEnd 5 = .ok (.iload_n 2, 1) := by decide +kernel
theorem dX7_takesEnd_6 : decode cX7_takesEnd 6 = .ok (.invokestatic 45, 3) := by decide +kernel
theorem dX7_takesEnd_9 : decode cX7_takesEnd 9 = .ok (.ifCond .eq 23, 3) := by decide +kernel
theorem dX7_takesEnd_12 : decode cX7_takesEnd 12 = .ok (.iload_n 2, 1) := by decide +kernel
theorem dX7_takesEnd_13 : decode cX7_takesEnd 13 = .ok (.aload_n 0, 1) := by decide +kernel
theorem dX7_takesEnd_14 : decode cX7_takesEnd 14 = .ok (.getfield 48, 3) := by decide +kernel
theorem dX7_takesEnd_17 : decode cX7_takesEnd 17 = .ok (.if_icmp .eq 15, 3) := by decide +kernel
theorem dX7_takesEnd_20 : decode cX7_takesEnd 20 = .ok (.aload_n 0, 1) := by decide +kernel
theorem dX7_takesEnd_21 : decode cX7_takesEnd 21 = .ok (.getfield 22, 3) := by decide +kernel
theorem dX7_takesEnd_24 : decode cX7_takesEnd 24 = .ok (.aload_n 0, 1) := by decide +kernel
theorem dX7_takesEnd_25 : decode cX7_takesEnd 25 = .ok (.getfield 9, 3) := by decide +kernel
theorem dX7_takesEnd_28 : decode cX7_takesEnd 28 = .ok (.arraylength, 1) := by decide +kernel
theorem dX7_takesEnd_29 : decode cX7_takesEnd 29 = .ok (.if_icmp .lt 5, 3) := by decide +kernel
theorem dX7_takesEnd_32 : decode cX7_takesEnd 32 = .ok (.iconst 0, 1) := by decide +kernel
theorem dX7_takesEnd_33 : decode cX7_takesEnd 33 = .ok (.ireturn, 1) := by decide +kernel
theorem dX7_takesEnd_34 : decode cX7_takesEnd 34 = .ok (.iconst 0, 1) := by decide +kernel
theorem dX7_takesEnd_35 : decode cX7_takesEnd 35 = .ok (.istore_n 3, 1) := by decide +kernel
theorem dX7_takesEnd_36 : decode cX7_takesEnd 36 = .ok (.iload_n 3, 1) := by decide +kernel
theorem dX7_takesEnd_37 : decode cX7_takesEnd 37 = .ok (.aload_n 0, 1) := by decide +kernel
theorem dX7_takesEnd_38 : decode cX7_takesEnd 38 = .ok (.getfield 22, 3) := by decide +kernel
theorem dX7_takesEnd_41 : decode cX7_takesEnd 41 = .ok (.if_icmp .ge 21, 3) := by decide +kernel
theorem dX7_takesEnd_44 : decode cX7_takesEnd 44 = .ok (.aload_n 0, 1) := by decide +kernel
theorem dX7_takesEnd_45 : decode cX7_takesEnd 45 = .ok (.getfield 9, 3) := by decide +kernel
theorem dX7_takesEnd_48 : decode cX7_takesEnd 48 = .ok (.iload_n 3, 1) := by decide +kernel
theorem dX7_takesEnd_49 : decode cX7_takesEnd 49 = .ok (.iaload, 1) := by decide +kernel
theorem dX7_takesEnd_50 : decode cX7_takesEnd 50 = .ok (.iload_n 2, 1) := by decide +kernel
theorem dX7_takesEnd_51 : decode cX7_takesEnd 51 = .ok (.if_icmp .ne 5, 3) := by decide +kernel
theorem dX7_takesEnd_54 : decode cX7_takesEnd 54 = .ok (.iconst 0, 1) := by decide +kernel
theorem dX7_takesEnd_55 : decode cX7_takesEnd 55 = .ok (.ireturn, 1) := by decide +kernel
theorem dX7_takesEnd_56 : decode cX7_takesEnd 56 = .ok (.iinc 3 1, 3) := by decide +kernel
theorem dX7_takesEnd_59 : decode cX7_takesEnd 59 = .ok (.goto (-23), 3) := by decide +kernel
theorem dX7_takesEnd_62 : decode cX7_takesEnd 62 = .ok (.aload_n 0, 1) := by decide +kernel
theorem dX7_takesEnd_63 : decode cX7_takesEnd 63 = .ok (.getfield 9, 3) := by decide +kernel
theorem dX7_takesEnd_66 : decode cX7_takesEnd 66 = .ok (.aload_n 0, 1) := by decide +kernel
theorem dX7_takesEnd_67 : decode cX7_takesEnd 67 = .ok (.dup, 1) := by decide +kernel
theorem dX7_takesEnd_68 : decode cX7_takesEnd 68 = .ok (.getfield 22, 3) := by decide +kernel
theorem dX7_takesEnd_71 : decode cX7_takesEnd 71 = .ok (.dup_x1, 1) := by decide +kernel
theorem dX7_takesEnd_72 : decode cX7_takesEnd 72 = .ok (.iconst 1, 1) := by decide +kernel
theorem dX7_takesEnd_73 : decode cX7_takesEnd 73 = .ok (.iadd, 1) := by decide +kernel
theorem dX7_takesEnd_74 : decode cX7_takesEnd 74 = .ok (.putfield 22, 3) := by decide +kernel
theorem dX7_takesEnd_77 : decode cX7_takesEnd 77 = .ok (.iload_n 2, 1) := by decide +kernel
theorem dX7_takesEnd_78 : decode cX7_takesEnd 78 = .ok (.iastore, 1) := by decide +kernel
theorem dX7_takesEnd_79 : decode cX7_takesEnd 79 = .ok (.iconst 1, 1) := by decide +kernel
theorem dX7_takesEnd_80 : decode cX7_takesEnd 80 = .ok (.ireturn, 1) := by decide +kernel
theorem dX7_takesDigit_0 : decode cX7_takesDigit 0 = .ok (.iload_n 1, 1) := by decide +kernel
theorem dX7_takesDigit_1 : decode cX7_takesDigit 1 = .ok (.bipush 48, 2) := by decide +kernel
theorem dX7_takesDigit_3 : decode cX7_takesDigit 3 = .ok (.isub, 1) := by decide +kernel
theorem dX7_takesDigit_4 : decode cX7_takesDigit 4 = .ok (.istore_n 2, 1) := by decide +kernel
theorem dX7_takesDigit_5 : decode cX7_takesDigit 5 = .ok (.aload_n 0, 1) := by decide +kernel
theorem dX7_takesDigit_6 : decode cX7_takesDigit 6 = .ok (.getfield 15, 3) := by decide +kernel
theorem dX7_takesDigit_9 : decode cX7_takesDigit 9 = .ok (.bipush 8, 2) := by decide +kernel
theorem dX7_takesDigit_11 : decode cX7_takesDigit 11 = .ok (.if_icmp .ne 7, 3) := by decide +kernel
theorem dX7_takesDigit_14 : decode cX7_takesDigit 14 = .ok (.iconst 0, 1) := by decide +kernel
theorem dX7_takesDigit_15 : decode cX7_takesDigit 15 = .ok (.goto 4, 3) := by decide +kernel
theorem dX7_takesDigit_18 : decode cX7_takesDigit 18 = .ok (.iconst 1, 1) := by decide +kernel
theorem dX7_takesDigit_19 : decode cX7_takesDigit 19 = .ok (.istore_n 3, 1) := by decide +kernel
theorem dX7_takesDigit_20 : decode cX7_takesDigit 20 = .ok (.iload_n 2, 1) := by decide +kernel
theorem dX7_takesDigit_21 : decode cX7_takesDigit 21 = .ok (.iload_n 3, 1) := by decide +kernel
theorem dX7_takesDigit_22 : decode cX7_takesDigit 22 = .ok (.if_icmp .lt 9, 3) := by decide +kernel
theorem dX7_takesDigit_25 : decode cX7_takesDigit 25 = .ok (.iload_n 2, 1) := by decide +kernel
theorem dX7_takesDigit_26 : decode cX7_takesDigit 26 = .ok (.bipush 9, 2) := by decide +kernel
theorem dX7_takesDigit_28 : decode cX7_takesDigit 28 = .ok (.if_icmp .le 5, 3) := by decide +kernel
theorem dX7_takesDigit_31 : decode cX7_takesDigit 31 = .ok (.iconst 0, 1) := by decide +kernel
theorem dX7_takesDigit_32 : decode cX7_takesDigit 32 = .ok (.ireturn, 1) := by decide +kernel
theorem dX7_takesDigit_33 : decode cX7_takesDigit 33 = .ok (.aload_n 0, 1) := by decide +kernel
theorem dX7_takesDigit_34 : decode cX7_takesDigit 34 = .ok (.getfield 15, 3) := by decide +kernel
theorem dX7_takesDigit_37 : decode cX7_takesDigit 37 = .ok (.tableswitch 59 4 8 #[35, 59, 43, 59, 51], 35) := by decide +kernel
theorem dX7_takesDigit_72 : decode cX7_takesDigit 72 = .ok (.aload_n 0, 1) := by decide +kernel
theorem dX7_takesDigit_73 : decode cX7_takesDigit 73 = .ok (.iload_n 2, 1) := by decide +kernel
theorem dX7_takesDigit_74 : decode cX7_takesDigit 74 = .ok (.putfield 51, 3) := by decide +kernel
theorem dX7_takesDigit_77 : decode cX7_takesDigit 77 = .ok (.goto 24, 3) := by decide +kernel
theorem dX7_takesDigit_80 : decode cX7_takesDigit 80 = .ok (.aload_n 0, 1) := by decide +kernel
theorem dX7_takesDigit_81 : decode cX7_takesDigit 81 = .ok (.iload_n 2, 1) := by decide +kernel
theorem dX7_takesDigit_82 : decode cX7_takesDigit 82 = .ok (.putfield 54, 3) := by decide +kernel
theorem dX7_takesDigit_85 : decode cX7_takesDigit 85 = .ok (.goto 16, 3) := by decide +kernel
theorem dX7_takesDigit_88 : decode cX7_takesDigit 88 = .ok (.aload_n 0, 1) := by decide +kernel
theorem dX7_takesDigit_89 : decode cX7_takesDigit 89 = .ok (.iload_n 2, 1) := by decide +kernel
theorem dX7_takesDigit_90 : decode cX7_takesDigit 90 = .ok (.putfield 57, 3) := by decide +kernel
theorem dX7_takesDigit_93 : decode cX7_takesDigit 93 = .ok (.goto 8, 3) := by decide +kernel
theorem dX7_takesDigit_96 : decode cX7_takesDigit 96 = .ok (.aload_n 0, 1) := by decide +kernel
theorem dX7_takesDigit_97 : decode cX7_takesDigit 97 = .ok (.iload_n 2, 1) := by decide +kernel
theorem dX7_takesDigit_98 : decode cX7_takesDigit 98 = .ok (.putfield 25, 3) := by decide +kernel
theorem dX7_takesDigit_101 : decode cX7_takesDigit 101 = .ok (.aload_n 0, 1) := by decide +kernel
theorem dX7_takesDigit_102 : decode cX7_takesDigit 102 = .ok (.dup, 1) := by decide +kernel
theorem dX7_takesDigit_103 : decode cX7_takesDigit 103 = .ok (.getfield 15, 3) := by decide +kernel
theorem dX7_takesDigit_106 : decode cX7_takesDigit 106 = .ok (.iconst 1, 1) := by decide +kernel
theorem dX7_takesDigit_107 : decode cX7_takesDigit 107 = .ok (.iadd, 1) := by decide +kernel
theorem dX7_takesDigit_108 : decode cX7_takesDigit 108 = .ok (.putfield 15, 3) := by decide +kernel
theorem dX7_takesDigit_111 : decode cX7_takesDigit 111 = .ok (.iconst 1, 1) := by decide +kernel
theorem dX7_takesDigit_112 : decode cX7_takesDigit 112 = .ok (.ireturn, 1) := by decide +kernel
theorem dX7_made_0 : decode cX7_made 0 = .ok (.aload_n 0, 1) := by decide +kernel
theorem dX7_made_1 : decode cX7_made 1 = .ok (.getfield 19, 3) := by decide +kernel
theorem dX7_made_4 : decode cX7_made 4 = .ok (.tableswitch 55 1 3 #[28, 37, 46], 28) := by decide +kernel
theorem dX7_made_32 : decode cX7_made 32 = .ok (.new 60, 3) := by decide +kernel
theorem dX7_made_35 : decode cX7_made 35 = .ok (.dup, 1) := by decide +kernel
theorem dX7_made_36 : decode cX7_made 36 = .ok (.aload_n 0, 1) := by decide +kernel
theorem dX7_made_37 : decode cX7_made 37 = .ok (.invokespecial 62, 3) := by decide +kernel
theorem dX7_made_40 : decode cX7_made 40 = .ok (.areturn, 1) := by decide +kernel
theorem dX7_made_41 : decode cX7_made 41 = .ok (.new 65, 3) := by decide +kernel
theorem dX7_made_44 : decode cX7_made 44 = .ok (.dup, 1) := by decide +kernel
theorem dX7_made_45 : decode cX7_made 45 = .ok (.aload_n 0, 1) := by decide +kernel
theorem dX7_made_46 : decode cX7_made 46 = .ok (.invokespecial 67, 3) := by decide +kernel
theorem dX7_made_49 : decode cX7_made 49 = .ok (.areturn, 1) := by decide +kernel
theorem dX7_made_50 : decode cX7_made 50 = .ok (.new 68, 3) := by decide +kernel
theorem dX7_made_53 : decode cX7_made 53 = .ok (.dup, 1) := by decide +kernel
theorem dX7_made_54 : decode cX7_made 54 = .ok (.aload_n 0, 1) := by decide +kernel
theorem dX7_made_55 : decode cX7_made 55 = .ok (.invokespecial 70, 3) := by decide +kernel
theorem dX7_made_58 : decode cX7_made 58 = .ok (.areturn, 1) := by decide +kernel
theorem dX7_made_59 : decode cX7_made 59 = .ok (.new 71, 3) := by decide +kernel
theorem dX7_made_62 : decode cX7_made 62 = .ok (.dup, 1) := by decide +kernel
theorem dX7_made_63 : decode cX7_made 63 = .ok (.aload_n 0, 1) := by decide +kernel
theorem dX7_made_64 : decode cX7_made 64 = .ok (.invokespecial 73, 3) := by decide +kernel
theorem dX7_made_67 : decode cX7_made 67 = .ok (.areturn, 1) := by decide +kernel
theorem dX8_init_0 : decode cX8_init 0 = .ok (.aload_n 0, 1) := by decide +kernel
theorem dX8_init_1 : decode cX8_init 1 = .ok (.aload_n 1, 1) := by decide +kernel
theorem dX8_init_2 : decode cX8_init 2 = .ok (.invokespecial 1, 3) := by decide +kernel
theorem dX8_init_5 : decode cX8_init 5 = .ok (.return_, 1) := by decide +kernel
theorem dX8_kind_0 : decode cX8_kind 0 = .ok (.iconst 2, 1) := by decide +kernel
theorem dX8_kind_1 : decode cX8_kind 1 = .ok (.ireturn, 1) := by decide +kernel
theorem dX8_placeCount_0 : decode cX8_placeCount 0 = .ok (.aload_n 0, 1) := by decide +kernel
theorem dX8_placeCount_1 : decode cX8_placeCount 1 = .ok (.invokevirtual 7, 3) := by decide +kernel
theorem dX8_placeCount_4 : decode cX8_placeCount 4 = .ok (.iconst 1, 1) := by decide +kernel
theorem dX8_placeCount_5 : decode cX8_placeCount 5 = .ok (.if_icmp .le 14, 3) := by decide +kernel
theorem dX8_placeCount_8 : decode cX8_placeCount 8 = .ok (.iconst 2, 1) := by decide +kernel
theorem dX8_placeCount_9 : decode cX8_placeCount 9 = .ok (.aload_n 0, 1) := by decide +kernel
theorem dX8_placeCount_10 : decode cX8_placeCount 10 = .ok (.invokevirtual 7, 3) := by decide +kernel
theorem dX8_placeCount_13 : decode cX8_placeCount 13 = .ok (.imul, 1) := by decide +kernel
theorem dX8_placeCount_14 : decode cX8_placeCount 14 = .ok (.iconst 2, 1) := by decide +kernel
theorem dX8_placeCount_15 : decode cX8_placeCount 15 = .ok (.isub, 1) := by decide +kernel
theorem dX8_placeCount_16 : decode cX8_placeCount 16 = .ok (.goto 4, 3) := by decide +kernel
theorem dX8_placeCount_19 : decode cX8_placeCount 19 = .ok (.iconst 1, 1) := by decide +kernel
theorem dX8_placeCount_20 : decode cX8_placeCount 20 = .ok (.ireturn, 1) := by decide +kernel
theorem dX8_endOfPlace_0 : decode cX8_endOfPlace 0 = .ok (.iload_n 1, 1) := by decide +kernel
theorem dX8_endOfPlace_1 : decode cX8_endOfPlace 1 = .ok (.aload_n 0, 1) := by decide +kernel
theorem dX8_endOfPlace_2 : decode cX8_endOfPlace 2 = .ok (.invokevirtual 7, 3) := by decide +kernel
theorem dX8_endOfPlace_5 : decode cX8_endOfPlace 5 = .ok (.if_icmp .ge 11, 3) := by decide +kernel
theorem dX8_endOfPlace_8 : decode cX8_endOfPlace 8 = .ok (.aload_n 0, 1) := by decide +kernel
theorem dX8_endOfPlace_9 : decode cX8_endOfPlace 9 = .ok (.iload_n 1, 1) := by decide +kernel
theorem dX8_endOfPlace_10 : decode cX8_endOfPlace 10 = .ok (.invokevirtual 13, 3) := by decide +kernel
theorem dX8_endOfPlace_13 : decode cX8_endOfPlace 13 = .ok (.goto 13, 3) := by decide +kernel
theorem dX8_endOfPlace_16 : decode cX8_endOfPlace 16 = .ok (.aload_n 0, 1) := by decide +kernel
theorem dX8_endOfPlace_17 : decode cX8_endOfPlace 17 = .ok (.aload_n 0, 1) := by decide +kernel
theorem dX8_endOfPlace_18 : decode cX8_endOfPlace 18 = .ok (.invokevirtual 17, 3) := by decide +kernel
theorem dX8_endOfPlace_21 : decode cX8_endOfPlace 21 = .ok (.iload_n 1, 1) := by decide +kernel
theorem dX8_endOfPlace_22 : decode cX8_endOfPlace 22 = .ok (.isub, 1) := by decide +kernel
theorem dX8_endOfPlace_23 : decode cX8_endOfPlace 23 = .ok (.invokevirtual 13, 3) := by decide +kernel
theorem dX8_endOfPlace_26 : decode cX8_endOfPlace 26 = .ok (.ireturn, 1) := by decide +kernel
theorem dX9_init_0 : decode cX9_init 0 = .ok (.aload_n 0, 1) := by decide +kernel
theorem dX9_init_1 : decode cX9_init 1 = .ok (.invokespecial 3, 3) := by decide +kernel
theorem dX9_init_4 : decode cX9_init 4 = .ok (.aload_n 0, 1) := by decide +kernel
theorem dX9_init_5 : decode cX9_init 5 = .ok (.bipush 10, 2) := by decide +kernel
theorem dX9_init_7 : decode cX9_init 7 = .ok (.sipush 1000, 3) := by decide +kernel
theorem dX9_init_10 : decode cX9_init 10 = .ok (.multianewarray 9 2, 4) := by decide +kernel
theorem dX9_init_14 : decode cX9_init 14 = .ok (.putfield 11, 3) := by decide +kernel
theorem dX9_init_17 : decode cX9_init 17 = .ok (.aload_n 0, 1) := by decide +kernel
theorem dX9_init_18 : decode cX9_init 18 = .ok (.bipush 10, 2) := by decide +kernel
theorem dX9_init_20 : decode cX9_init 20 = .ok (.newarray .int, 2) := by decide +kernel
theorem dX9_init_22 : decode cX9_init 22 = .ok (.putfield 16, 3) := by decide +kernel
theorem dX9_init_25 : decode cX9_init 25 = .ok (.aload_n 0, 1) := by decide +kernel
theorem dX9_init_26 : decode cX9_init 26 = .ok (.bipush 10, 2) := by decide +kernel
theorem dX9_init_28 : decode cX9_init 28 = .ok (.newarray .int, 2) := by decide +kernel
theorem dX9_init_30 : decode cX9_init 30 = .ok (.putfield 20, 3) := by decide +kernel
theorem dX9_init_33 : decode cX9_init 33 = .ok (.aload_n 0, 1) := by decide +kernel
theorem dX9_init_34 : decode cX9_init 34 = .ok (.bipush 8, 2) := by decide +kernel
theorem dX9_init_36 : decode cX9_init 36 = .ok (.sipush 460, 3) := by decide +kernel
theorem dX9_init_39 : decode cX9_init 39 = .ok (.multianewarray 9 2, 4) := by decide +kernel
theorem dX9_init_43 : decode cX9_init 43 = .ok (.putfield 23, 3) := by decide +kernel
theorem dX9_init_46 : decode cX9_init 46 = .ok (.aload_n 0, 1) := by decide +kernel
theorem dX9_init_47 : decode cX9_init 47 = .ok (.bipush 8, 2) := by decide +kernel
theorem dX9_init_49 : decode cX9_init 49 = .ok (.newarray .int, 2) := by decide +kernel
theorem dX9_init_51 : decode cX9_init 51 = .ok (.putfield 26, 3) := by decide +kernel
theorem dX9_init_54 : decode cX9_init 54 = .ok (.aload_n 0, 1) := by decide +kernel
theorem dX9_init_55 : decode cX9_init 55 = .ok (.iconst 0, 1) := by decide +kernel
theorem dX9_init_56 : decode cX9_init 56 = .ok (.putfield 29, 3) := by decide +kernel
theorem dX9_init_59 : decode cX9_init 59 = .ok (.aload_n 0, 1) := by decide +kernel
theorem dX9_init_60 : decode cX9_init 60 = .ok (.iconst 0, 1) := by decide +kernel
theorem dX9_init_61 : decode cX9_init 61 = .ok (.putfield 33, 3) := by decide +kernel
theorem dX9_init_64 : decode cX9_init 64 = .ok (.aload_n 0, 1) := by decide +kernel
theorem dX9_init_65 : decode cX9_init 65 = .ok (.iconst 1, 1) := by decide +kernel
theorem dX9_init_66 : decode cX9_init 66 = .ok (.putfield 36, 3) := by decide +kernel
theorem dX9_init_69 : decode cX9_init 69 = .ok (.aload_n 0, 1) := by decide +kernel
theorem dX9_init_70 : decode cX9_init 70 = .ok (.iconst 0, 1) := by decide +kernel
theorem dX9_init_71 : decode cX9_init 71 = .ok (.putfield 39, 3) := by decide +kernel
theorem dX9_init_74 : decode cX9_init 74 = .ok (.return_, 1) := by decide +kernel
theorem dX9_open_0 : decode cX9_open 0 = .ok (.aload_n 0, 1) := by decide +kernel
theorem dX9_open_1 : decode cX9_open 1 = .ok (.iload_n 1, 1) := by decide +kernel
theorem dX9_open_2 : decode cX9_open 2 = .ok (.putfield 29, 3) := by decide +kernel
theorem dX9_open_5 : decode cX9_open 5 = .ok (.aload_n 0, 1) := by decide +kernel
theorem dX9_open_6 : decode cX9_open 6 = .ok (.iconst 0, 1) := by decide +kernel
theorem dX9_open_7 : decode cX9_open 7 = .ok (.iload_n 2, 1) := by decide +kernel
theorem dX9_open_8 : decode cX9_open 8 = .ok (.sipush 999, 3) := by decide +kernel
theorem dX9_open_11 : decode cX9_open 11 = .ok (.invokestatic 42, 3) := by decide +kernel
theorem dX9_open_14 : decode cX9_open 14 = .ok (.invokestatic 48, 3) := by decide +kernel
theorem dX9_open_17 : decode cX9_open 17 = .ok (.putfield 33, 3) := by decide +kernel
theorem dX9_open_20 : decode cX9_open 20 = .ok (.aload_n 0, 1) := by decide +kernel
theorem dX9_open_21 : decode cX9_open 21 = .ok (.iconst 1, 1) := by decide +kernel
theorem dX9_open_22 : decode cX9_open 22 = .ok (.iload_n 3, 1) := by decide +kernel
theorem dX9_open_23 : decode cX9_open 23 = .ok (.invokestatic 48, 3) := by decide +kernel
theorem dX9_open_26 : decode cX9_open 26 = .ok (.putfield 36, 3) := by decide +kernel
theorem dX9_open_29 : decode cX9_open 29 = .ok (.aload_n 0, 1) := by decide +kernel
theorem dX9_open_30 : decode cX9_open 30 = .ok (.iconst 0, 1) := by decide +kernel
theorem dX9_open_31 : decode cX9_open 31 = .ok (.iload 4, 2) := by decide +kernel
theorem dX9_open_33 : decode cX9_open 33 = .ok (.bipush 10, 2) := by decide +kernel
theorem dX9_open_35 : decode cX9_open 35 = .ok (.invokestatic 42, 3) := by decide +kernel
theorem dX9_open_38 : decode cX9_open 38 = .ok (.invokestatic 48, 3) := by decide +kernel
theorem dX9_open_41 : decode cX9_open 41 = .ok (.putfield 39, 3) := by decide +kernel
theorem dX9_open_44 : decode cX9_open 44 = .ok (.return_, 1) := by decide +kernel
theorem dX9_span_0 : decode cX9_span 0 = .ok (.aload_n 0, 1) := by decide +kernel
theorem dX9_span_1 : decode cX9_span 1 = .ok (.getfield 33, 3) := by decide +kernel
theorem dX9_span_4 : decode cX9_span 4 = .ok (.ireturn, 1) := by decide +kernel
theorem dX9_pace_0 : decode cX9_pace 0 = .ok (.aload_n 0, 1) := by decide +kernel
theorem dX9_pace_1 : decode cX9_pace 1 = .ok (.getfield 36, 3) := by decide +kernel
theorem dX9_pace_4 : decode cX9_pace 4 = .ok (.ireturn, 1) := by decide +kernel
theorem dX9_pivot_0 : decode cX9_pivot 0 = .ok (.iload_n 1, 1) := by decide +kernel
theorem dX9_pivot_1 : decode cX9_pivot 1 = .ok (.ifCond .lt 20, 3) := by decide +kernel
theorem dX9_pivot_4 : decode cX9_pivot 4 = .ok (.iload_n 1, 1) := by decide +kernel
theorem dX9_pivot_5 : decode cX9_pivot 5 = .ok (.aload_n 0, 1) := by decide +kernel
theorem dX9_pivot_6 : decode cX9_pivot 6 = .ok (.getfield 39, 3) := by decide +kernel
theorem dX9_pivot_9 : decode cX9_pivot 9 = .ok (.if_icmp .ge 12, 3) := by decide +kernel
theorem dX9_pivot_12 : decode cX9_pivot 12 = .ok (.aload_n 0, 1) := by decide +kernel
theorem dX9_pivot_13 : decode cX9_pivot 13 = .ok (.getfield 16, 3) := by decide +kernel
theorem dX9_pivot_16 : decode cX9_pivot 16 = .ok (.iload_n 1, 1) := by decide +kernel
theorem dX9_pivot_17 : decode cX9_pivot 17 = .ok (.iaload, 1) := by decide +kernel
theorem dX9_pivot_18 : decode cX9_pivot 18 = .ok (.goto 4, 3) := by decide +kernel
theorem dX9_pivot_21 : decode cX9_pivot 21 = .ok (.iconst (-1), 1) := by decide +kernel
theorem dX9_pivot_22 : decode cX9_pivot 22 = .ok (.ireturn, 1) := by decide +kernel
theorem dX9_landing_0 : decode cX9_landing 0 = .ok (.iload_n 1, 1) := by decide +kernel
theorem dX9_landing_1 : decode cX9_landing 1 = .ok (.ifCond .lt 32, 3) := by decide +kernel
theorem dX9_landing_4 : decode cX9_landing 4 = .ok (.iload_n 1, 1) := by decide +kernel
theorem dX9_landing_5 : decode cX9_landing 5 = .ok (.aload_n 0, 1) := by decide +kernel
theorem dX9_landing_6 : decode cX9_landing 6 = .ok (.getfield 39, 3) := by decide +kernel
theorem dX9_landing_9 : decode cX9_landing 9 = .ok (.if_icmp .ge 24, 3) := by decide +kernel
theorem dX9_landing_12 : decode cX9_landing 12 = .ok (.iload_n 2, 1) := by decide +kernel
theorem dX9_landing_13 : decode cX9_landing 13 = .ok (.ifCond .lt 20, 3) := by decide +kernel
theorem dX9_landing_16 : decode cX9_landing 16 = .ok (.iload_n 2, 1) := by decide +kernel
theorem dX9_landing_17 : decode cX9_landing 17 = .ok (.aload_n 0, 1) := by decide +kernel
theorem dX9_landing_18 : decode cX9_landing 18 = .ok (.getfield 36, 3) := by decide +kernel
theorem dX9_landing_21 : decode cX9_landing 21 = .ok (.iadd, 1) := by decide +kernel
theorem dX9_landing_22 : decode cX9_landing 22 = .ok (.aload_n 0, 1) := by decide +kernel
theorem dX9_landing_23 : decode cX9_landing 23 = .ok (.getfield 33, 3) := by decide +kernel
theorem dX9_landing_26 : decode cX9_landing 26 = .ok (.if_icmp .gt 7, 3) := by decide +kernel
theorem dX9_landing_29 : decode cX9_landing 29 = .ok (.iconst 1, 1) := by decide +kernel
theorem dX9_landing_30 : decode cX9_landing 30 = .ok (.goto 4, 3) := by decide +kernel
theorem dX9_landing_33 : decode cX9_landing 33 = .ok (.iconst 0, 1) := by decide +kernel
theorem dX9_landing_34 : decode cX9_landing 34 = .ok (.istore_n 3, 1) := by decide +kernel
theorem dX9_landing_35 : decode cX9_landing 35 = .ok (.iload_n 3, 1) := by decide +kernel
theorem dX9_landing_36 : decode cX9_landing 36 = .ok (.ifCond .eq 14, 3) := by decide +kernel
theorem dX9_landing_39 : decode cX9_landing 39 = .ok (.aload_n 0, 1) := by decide +kernel
theorem dX9_landing_40 : decode cX9_landing 40 = .ok (.getfield 11, 3) := by decide +kernel
theorem dX9_landing_43 : decode cX9_landing 43 = .ok (.iload_n 1, 1) := by decide +kernel
theorem dX9_landing_44 : decode cX9_landing 44 = .ok (.aaload, 1) := by decide +kernel
theorem dX9_landing_45 : decode cX9_landing 45 = .ok (.iload_n 2, 1) := by decide +kernel
theorem dX9_landing_46 : decode cX9_landing 46 = .ok (.iaload, 1) := by decide +kernel
theorem dX9_landing_47 : decode cX9_landing 47 = .ok (.goto 4, 3) := by decide +kernel
theorem dX9_landing_50 : decode cX9_landing 50 = .ok (.iconst (-1), 1) := by decide +kernel
theorem dX9_landing_51 : decode cX9_landing 51 = .ok (.ireturn, 1) := by decide +kernel
theorem dX9_lay_0 : decode cX9_lay 0 = .ok (.iload_n 1, 1) := by decide +kernel
theorem dX9_lay_1 : decode cX9_lay 1 = .ok (.ifCond .lt 11, 3) := by decide +kernel
theorem dX9_lay_4 : decode cX9_lay 4 = .ok (.iload_n 1, 1) := by decide +kernel
theorem dX9_lay_5 : decode cX9_lay 5 = .ok (.aload_n 0, 1) := by decide +kernel
theorem dX9_lay_6 : decode cX9_lay 6 = .ok (.getfield 39, 3) := by decide +kernel
theorem dX9_lay_9 : decode cX9_lay 9 = .ok (.if_icmp .lt 4, 3) := by decide +kernel
theorem dX9_lay_12 : decode cX9_lay 12 = .ok (.return_, 1) := by decide +kernel
theorem dX9_lay_13 : decode cX9_lay 13 = .ok (.aload_n 2, 1) := by decide +kernel
theorem dX9_lay_14 : decode cX9_lay 14 = .ok (.iload 4, 2) := by decide +kernel
theorem dX9_lay_16 : decode cX9_lay 16 = .ok (.invokevirtual 51, 3) := by decide +kernel
theorem dX9_lay_19 : decode cX9_lay 19 = .ok (.istore 5, 2) := by decide +kernel
theorem dX9_lay_21 : decode cX9_lay 21 = .ok (.aload_n 0, 1) := by decide +kernel
theorem dX9_lay_22 : decode cX9_lay 22 = .ok (.getfield 11, 3) := by decide +kernel
theorem dX9_lay_25 : decode cX9_lay 25 = .ok (.iload_n 1, 1) := by decide +kernel
theorem dX9_lay_26 : decode cX9_lay 26 = .ok (.aaload, 1) := by decide +kernel
theorem dX9_lay_27 : decode cX9_lay 27 = .ok (.astore 6, 2) := by decide +kernel
theorem dX9_lay_29 : decode cX9_lay 29 = .ok (.iconst 0, 1) := by decide +kernel
theorem dX9_lay_30 : decode cX9_lay 30 = .ok (.istore 7, 2) := by decide +kernel
theorem dX9_lay_32 : decode cX9_lay 32 = .ok (.iconst 0, 1) := by decide +kernel
theorem dX9_lay_33 : decode cX9_lay 33 = .ok (.istore 8, 2) := by decide +kernel
theorem dX9_lay_35 : decode cX9_lay 35 = .ok (.iload 8, 2) := by decide +kernel
theorem dX9_lay_37 : decode cX9_lay 37 = .ok (.aload_n 0, 1) := by decide +kernel
theorem dX9_lay_38 : decode cX9_lay 38 = .ok (.getfield 33, 3) := by decide +kernel
theorem dX9_lay_41 : decode cX9_lay 41 = .ok (.if_icmp .ge 106, 3) := by decide +kernel
theorem dX9_lay_44 : decode cX9_lay 44 = .ok (.iload 5, 2) := by decide +kernel
theorem dX9_lay_46 : decode cX9_lay 46 = .ok (.ifCond .le 26, 3) := by decide +kernel
theorem dX9_lay_49 : decode cX9_lay 49 = .ok (.iload 8, 2) := by decide +kernel
theorem dX9_lay_51 : decode cX9_lay 51 = .ok (.iload 5, 2) := by decide +kernel
theorem dX9_lay_53 : decode cX9_lay 53 = .ok (.if_icmp .lt 19, 3) := by decide +kernel
theorem dX9_lay_56 : decode cX9_lay 56 = .ok (.aload 6, 2) := by decide +kernel
theorem dX9_lay_58 : decode cX9_lay 58 = .ok (.iload 8, 2) := by decide +kernel
theorem dX9_lay_60 : decode cX9_lay 60 = .ok (.aload 6, 2) := by decide +kernel
theorem dX9_lay_62 : decode cX9_lay 62 = .ok (.iload 8, 2) := by decide +kernel
theorem dX9_lay_64 : decode cX9_lay 64 = .ok (.iload 5, 2) := by decide +kernel
theorem dX9_lay_66 : decode cX9_lay 66 = .ok (.isub, 1) := by decide +kernel
theorem dX9_lay_67 : decode cX9_lay 67 = .ok (.iaload, 1) := by decide +kernel
theorem dX9_lay_68 : decode cX9_lay 68 = .ok (.iastore, 1) := by decide +kernel
theorem dX9_lay_69 : decode cX9_lay 69 = .ok (.goto 72, 3) := by decide +kernel
theorem dX9_lay_72 : decode cX9_lay 72 = .ok (.aload_n 0, 1) := by decide +kernel
theorem dX9_lay_73 : decode cX9_lay 73 = .ok (.getfield 29, 3) := by decide +kernel
theorem dX9_lay_76 : decode cX9_lay 76 = .ok (.iload 8, 2) := by decide +kernel
theorem dX9_lay_78 : decode cX9_lay 78 = .ok (.iadd, 1) := by decide +kernel
theorem dX9_lay_79 : decode cX9_lay 79 = .ok (.iload_n 3, 1) := by decide +kernel
theorem dX9_lay_80 : decode cX9_lay 80 = .ok (.iadd, 1) := by decide +kernel
theorem dX9_lay_81 : decode cX9_lay 81 = .ok (.istore 9, 2) := by decide +kernel
theorem dX9_lay_83 : decode cX9_lay 83 = .ok (.aload_n 2, 1) := by decide +kernel
theorem dX9_lay_84 : decode cX9_lay 84 = .ok (.iload 9, 2) := by decide +kernel
theorem dX9_lay_86 : decode cX9_lay 86 = .ok (.iload 4, 2) := by decide +kernel
theorem dX9_lay_88 : decode cX9_lay 88 = .ok (.invokevirtual 57, 3) := by decide +kernel
theorem dX9_lay_91 : decode cX9_lay 91 = .ok (.aload_n 0, 1) := by decide +kernel
theorem dX9_lay_92 : decode cX9_lay 92 = .ok (.getfield 36, 3) := by decide +kernel
theorem dX9_lay_95 : decode cX9_lay 95 = .ok (.if_icmp .lt 14, 3) := by decide +kernel
theorem dX9_lay_98 : decode cX9_lay 98 = .ok (.aload_n 2, 1) := by decide +kernel
theorem dX9_lay_99 : decode cX9_lay 99 = .ok (.iload 9, 2) := by decide +kernel
theorem dX9_lay_101 : decode cX9_lay 101 = .ok (.iload 4, 2) := by decide +kernel
theorem dX9_lay_103 : decode cX9_lay 103 = .ok (.invokevirtual 61, 3) := by decide +kernel
theorem dX9_lay_106 : decode cX9_lay 106 = .ok (.goto 4, 3) := by decide +kernel
theorem dX9_lay_109 : decode cX9_lay 109 = .ok (.iconst (-1), 1) := by decide +kernel
theorem dX9_lay_110 : decode cX9_lay 110 = .ok (.istore 10, 2) := by decide +kernel
theorem dX9_lay_112 : decode cX9_lay 112 = .ok (.aload 6, 2) := by decide +kernel
theorem dX9_lay_114 : decode cX9_lay 114 = .ok (.iload 8, 2) := by decide +kernel
theorem dX9_lay_116 : decode cX9_lay 116 = .ok (.iload 10, 2) := by decide +kernel
theorem dX9_lay_118 : decode cX9_lay 118 = .ok (.iastore, 1) := by decide +kernel
theorem dX9_lay_119 : decode cX9_lay 119 = .ok (.iload 10, 2) := by decide +kernel
theorem dX9_lay_121 : decode cX9_lay 121 = .ok (.iconst (-1), 1) := by decide +kernel
theorem dX9_lay_122 : decode cX9_lay 122 = .ok (.if_icmp .eq 19, 3) := by decide +kernel
theorem dX9_lay_125 : decode cX9_lay 125 = .ok (.iload 7, 2) := by decide +kernel
theorem dX9_lay_127 : decode cX9_lay 127 = .ok (.iconst 1, 1) := by decide +kernel
theorem dX9_lay_128 : decode cX9_lay 128 = .ok (.iload 10, 2) := by decide +kernel
theorem dX9_lay_130 : decode cX9_lay 130 = .ok (.ishl, 1) := by decide +kernel
theorem dX9_lay_131 : decode cX9_lay 131 = .ok (.iconst 1, 1) := by decide +kernel
theorem dX9_lay_132 : decode cX9_lay 132 = .ok (.aload_n 2, 1) := by decide +kernel
theorem dX9_lay_133 : decode cX9_lay 133 = .ok (.getfield 64, 3) := by decide +kernel
theorem dX9_lay_136 : decode cX9_lay 136 = .ok (.ishl, 1) := by decide +kernel
theorem dX9_lay_137 : decode cX9_lay 137 = .ok (.ior, 1) := by decide +kernel
theorem dX9_lay_138 : decode cX9_lay 138 = .ok (.ior, 1) := by decide +kernel
theorem dX9_lay_139 : decode cX9_lay 139 = .ok (.istore 7, 2) := by decide +kernel
theorem dX9_lay_141 : decode cX9_lay 141 = .ok (.iinc 8 1, 3) := by decide +kernel
theorem dX9_lay_144 : decode cX9_lay 144 = .ok (.goto (-109), 3) := by decide +kernel
theorem dX9_lay_147 : decode cX9_lay 147 = .ok (.aload_n 0, 1) := by decide +kernel
theorem dX9_lay_148 : decode cX9_lay 148 = .ok (.getfield 16, 3) := by decide +kernel
theorem dX9_lay_151 : decode cX9_lay 151 = .ok (.iload_n 1, 1) := by decide +kernel
theorem dX9_lay_152 : decode cX9_lay 152 = .ok (.aload_n 2, 1) := by decide +kernel
theorem dX9_lay_153 : decode cX9_lay 153 = .ok (.getfield 64, 3) := by decide +kernel
theorem dX9_lay_156 : decode cX9_lay 156 = .ok (.iastore, 1) := by decide +kernel
theorem dX9_lay_157 : decode cX9_lay 157 = .ok (.aload_n 0, 1) := by decide +kernel
theorem dX9_lay_158 : decode cX9_lay 158 = .ok (.getfield 20, 3) := by decide +kernel
theorem dX9_lay_161 : decode cX9_lay 161 = .ok (.iload_n 1, 1) := by decide +kernel
theorem dX9_lay_162 : decode cX9_lay 162 = .ok (.iload 7, 2) := by decide +kernel
theorem dX9_lay_164 : decode cX9_lay 164 = .ok (.iastore, 1) := by decide +kernel
theorem dX9_lay_165 : decode cX9_lay 165 = .ok (.return_, 1) := by decide +kernel
theorem dX9_layAlways_0 : decode cX9_layAlways 0 = .ok (.iload_n 1, 1) := by decide +kernel
theorem dX9_layAlways_1 : decode cX9_layAlways 1 = .ok (.ifCond .lt 11, 3) := by decide +kernel
theorem dX9_layAlways_4 : decode cX9_layAlways 4 = .ok (.iload_n 1, 1) := by decide +kernel
theorem dX9_layAlways_5 : decode cX9_layAlways 5 = .ok (.aload_n 0, 1) := by decide +kernel
theorem dX9_layAlways_6 : decode cX9_layAlways 6 = .ok (.getfield 39, 3) := by decide +kernel
theorem dX9_layAlways_9 : decode cX9_layAlways 9 = .ok (.if_icmp .lt 4, 3) := by decide +kernel
theorem dX9_layAlways_12 : decode cX9_layAlways 12 = .ok (.return_, 1) := by decide +kernel
theorem dX9_layAlways_13 : decode cX9_layAlways 13 = .ok (.aload_n 0, 1) := by decide +kernel
theorem dX9_layAlways_14 : decode cX9_layAlways 14 = .ok (.getfield 11, 3) := by decide +kernel
theorem dX9_layAlways_17 : decode cX9_layAlways 17 = .ok (.iload_n 1, 1) := by decide +kernel
theorem dX9_layAlways_18 : decode cX9_layAlways 18 = .ok (.aaload, 1) := by decide +kernel
theorem dX9_layAlways_19 : decode cX9_layAlways 19 = .ok (.iload_n 3, 1) := by decide +kernel
theorem dX9_layAlways_20 : decode cX9_layAlways 20 = .ok (.invokestatic 67, 3) := by decide +kernel
theorem dX9_layAlways_23 : decode cX9_layAlways 23 = .ok (.aload_n 0, 1) := by decide +kernel
theorem dX9_layAlways_24 : decode cX9_layAlways 24 = .ok (.getfield 16, 3) := by decide +kernel
theorem dX9_layAlways_27 : decode cX9_layAlways 27 = .ok (.iload_n 1, 1) := by decide +kernel
theorem dX9_layAlways_28 : decode cX9_layAlways 28 = .ok (.iload_n 2, 1) := by decide +kernel
theorem dX9_layAlways_29 : decode cX9_layAlways 29 = .ok (.iastore, 1) := by decide +kernel
theorem dX9_layAlways_30 : decode cX9_layAlways 30 = .ok (.aload_n 0, 1) := by decide +kernel
theorem dX9_layAlways_31 : decode cX9_layAlways 31 = .ok (.getfield 20, 3) := by decide +kernel
theorem dX9_layAlways_34 : decode cX9_layAlways 34 = .ok (.iload_n 1, 1) := by decide +kernel
theorem dX9_layAlways_35 : decode cX9_layAlways 35 = .ok (.iload_n 3, 1) := by decide +kernel
theorem dX9_layAlways_36 : decode cX9_layAlways 36 = .ok (.iconst (-1), 1) := by decide +kernel
theorem dX9_layAlways_37 : decode cX9_layAlways 37 = .ok (.if_icmp .ne 7, 3) := by decide +kernel
theorem dX9_layAlways_40 : decode cX9_layAlways 40 = .ok (.iconst 0, 1) := by decide +kernel
theorem dX9_layAlways_41 : decode cX9_layAlways 41 = .ok (.goto 10, 3) := by decide +kernel
theorem dX9_layAlways_44 : decode cX9_layAlways 44 = .ok (.iconst 1, 1) := by decide +kernel
theorem dX9_layAlways_45 : decode cX9_layAlways 45 = .ok (.iload_n 3, 1) := by decide +kernel
theorem dX9_layAlways_46 : decode cX9_layAlways 46 = .ok (.ishl, 1) := by decide +kernel
theorem dX9_layAlways_47 : decode cX9_layAlways 47 = .ok (.iconst 1, 1) := by decide +kernel
theorem dX9_layAlways_48 : decode cX9_layAlways 48 = .ok (.iload_n 2, 1) := by decide +kernel
theorem dX9_layAlways_49 : decode cX9_layAlways 49 = .ok (.ishl, 1) := by decide +kernel
theorem dX9_layAlways_50 : decode cX9_layAlways 50 = .ok (.ior, 1) := by decide +kernel
theorem dX9_layAlways_51 : decode cX9_layAlways 51 = .ok (.iastore, 1) := by decide +kernel
theorem dX9_layAlways_52 : decode cX9_layAlways 52 = .ok (.return_, 1) := by decide +kernel
theorem dX9_layNothing_0 : decode cX9_layNothing 0 = .ok (.aload_n 0, 1) := by decide +kernel
theorem dX9_layNothing_1 : decode cX9_layNothing 1 = .ok (.iload_n 1, 1) := by decide +kernel
theorem dX9_layNothing_2 : decode cX9_layNothing 2 = .ok (.iconst 0, 1) := by decide +kernel
theorem dX9_layNothing_3 : decode cX9_layNothing 3 = .ok (.iconst (-1), 1) := by decide +kernel
theorem dX9_layNothing_4 : decode cX9_layNothing 4 = .ok (.invokevirtual 73, 3) := by decide +kernel
theorem dX9_layNothing_7 : decode cX9_layNothing 7 = .ok (.return_, 1) := by decide +kernel
theorem dX9_reach_0 : decode cX9_reach 0 = .ok (.aload 4, 2) := by decide +kernel
theorem dX9_reach_2 : decode cX9_reach 2 = .ok (.ldc 77, 2) := by decide +kernel
theorem dX9_reach_4 : decode cX9_reach 4 = .ok (.invokestatic 67, 3) := by decide +kernel
theorem dX9_reach_7 : decode cX9_reach 7 = .ok (.iload_n 1, 1) := by decide +kernel
theorem dX9_reach_8 : decode cX9_reach 8 = .ok (.ifCond .lt 10, 3) := by decide +kernel
theorem dX9_reach_11 : decode cX9_reach 11 = .ok (.iload_n 1, 1) := by decide +kernel
theorem dX9_reach_12 : decode cX9_reach 12 = .ok (.aload 4, 2) := by decide +kernel
theorem dX9_reach_14 : decode cX9_reach 14 = .ok (.arraylength, 1) := by decide +kernel
theorem dX9_reach_15 : decode cX9_reach 15 = .ok (.if_icmp .lt 4, 3) := by decide +kernel
theorem dX9_reach_18 : decode cX9_reach 18 = .ok (.return_, 1) := by decide +kernel
theorem dX9_reach_19 : decode cX9_reach 19 = .ok (.aload 4, 2) := by decide +kernel
theorem dX9_reach_21 : decode cX9_reach 21 = .ok (.iload_n 1, 1) := by decide +kernel
theorem dX9_reach_22 : decode cX9_reach 22 = .ok (.iload_n 2, 1) := by decide +kernel
theorem dX9_reach_23 : decode cX9_reach 23 = .ok (.iastore, 1) := by decide +kernel
theorem dX9_reach_24 : decode cX9_reach 24 = .ok (.iload_n 3, 1) := by decide +kernel
theorem dX9_reach_25 : decode cX9_reach 25 = .ok (.aload_n 0, 1) := by decide +kernel
theorem dX9_reach_26 : decode cX9_reach 26 = .ok (.iload_n 1, 1) := by decide +kernel
theorem dX9_reach_27 : decode cX9_reach 27 = .ok (.invokevirtual 78, 3) := by decide +kernel
theorem dX9_reach_30 : decode cX9_reach 30 = .ok (.iand, 1) := by decide +kernel
theorem dX9_reach_31 : decode cX9_reach 31 = .ok (.iconst 1, 1) := by decide +kernel
theorem dX9_reach_32 : decode cX9_reach 32 = .ok (.iload_n 1, 1) := by decide +kernel
theorem dX9_reach_33 : decode cX9_reach 33 = .ok (.ishl, 1) := by decide +kernel
theorem dX9_reach_34 : decode cX9_reach 34 = .ok (.iconst (-1), 1) := by decide +kernel
theorem dX9_reach_35 : decode cX9_reach 35 = .ok (.ixor, 1) := by decide +kernel
theorem dX9_reach_36 : decode cX9_reach 36 = .ok (.iand, 1) := by decide +kernel
theorem dX9_reach_37 : decode cX9_reach 37 = .ok (.istore 5, 2) := by decide +kernel
theorem dX9_reach_39 : decode cX9_reach 39 = .ok (.aload_n 0, 1) := by decide +kernel
theorem dX9_reach_40 : decode cX9_reach 40 = .ok (.getfield 33, 3) := by decide +kernel
theorem dX9_reach_43 : decode cX9_reach 43 = .ok (.iload_n 2, 1) := by decide +kernel
theorem dX9_reach_44 : decode cX9_reach 44 = .ok (.sipush 400, 3) := by decide +kernel
theorem dX9_reach_47 : decode cX9_reach 47 = .ok (.iadd, 1) := by decide +kernel
theorem dX9_reach_48 : decode cX9_reach 48 = .ok (.invokestatic 42, 3) := by decide +kernel
theorem dX9_reach_51 : decode cX9_reach 51 = .ok (.aload_n 0, 1) := by decide +kernel
theorem dX9_reach_52 : decode cX9_reach 52 = .ok (.getfield 36, 3) := by decide +kernel
theorem dX9_reach_55 : decode cX9_reach 55 = .ok (.isub, 1) := by decide +kernel
theorem dX9_reach_56 : decode cX9_reach 56 = .ok (.istore 6, 2) := by decide +kernel
theorem dX9_reach_58 : decode cX9_reach 58 = .ok (.iload_n 2, 1) := by decide +kernel
theorem dX9_reach_59 : decode cX9_reach 59 = .ok (.istore 7, 2) := by decide +kernel
theorem dX9_reach_61 : decode cX9_reach 61 = .ok (.iload 7, 2) := by decide +kernel
theorem dX9_reach_63 : decode cX9_reach 63 = .ok (.iload 6, 2) := by decide +kernel
theorem dX9_reach_65 : decode cX9_reach 65 = .ok (.if_icmp .gt 149, 3) := by decide +kernel
theorem dX9_reach_68 : decode cX9_reach 68 = .ok (.iload 5, 2) := by decide +kernel
theorem dX9_reach_70 : decode cX9_reach 70 = .ok (.ifCond .eq 144, 3) := by decide +kernel
theorem dX9_reach_73 : decode cX9_reach 73 = .ok (.iconst 0, 1) := by decide +kernel
theorem dX9_reach_74 : decode cX9_reach 74 = .ok (.istore 8, 2) := by decide +kernel
theorem dX9_reach_76 : decode cX9_reach 76 = .ok (.iload 8, 2) := by decide +kernel
theorem dX9_reach_78 : decode cX9_reach 78 = .ok (.aload_n 0, 1) := by decide +kernel
theorem dX9_reach_79 : decode cX9_reach 79 = .ok (.getfield 39, 3) := by decide +kernel
theorem dX9_reach_82 : decode cX9_reach 82 = .ok (.if_icmp .ge 126, 3) := by decide +kernel
theorem dX9_reach_85 : decode cX9_reach 85 = .ok (.aload_n 0, 1) := by decide +kernel
theorem dX9_reach_86 : decode cX9_reach 86 = .ok (.iload 8, 2) := by decide +kernel
theorem dX9_reach_88 : decode cX9_reach 88 = .ok (.iload 7, 2) := by decide +kernel
theorem dX9_reach_90 : decode cX9_reach 90 = .ok (.invokevirtual 82, 3) := by decide +kernel
theorem dX9_reach_93 : decode cX9_reach 93 = .ok (.istore 9, 2) := by decide +kernel
theorem dX9_reach_95 : decode cX9_reach 95 = .ok (.iload 9, 2) := by decide +kernel
theorem dX9_reach_97 : decode cX9_reach 97 = .ok (.iconst (-1), 1) := by decide +kernel
theorem dX9_reach_98 : decode cX9_reach 98 = .ok (.if_icmp .ne 6, 3) := by decide +kernel
theorem dX9_reach_101 : decode cX9_reach 101 = .ok (.goto 101, 3) := by decide +kernel
theorem dX9_reach_104 : decode cX9_reach 104 = .ok (.aload_n 0, 1) := by decide +kernel
theorem dX9_reach_105 : decode cX9_reach 105 = .ok (.getfield 16, 3) := by decide +kernel
theorem dX9_reach_108 : decode cX9_reach 108 = .ok (.iload 8, 2) := by decide +kernel
theorem dX9_reach_110 : decode cX9_reach 110 = .ok (.iaload, 1) := by decide +kernel
theorem dX9_reach_111 : decode cX9_reach 111 = .ok (.istore 10, 2) := by decide +kernel
theorem dX9_reach_113 : decode cX9_reach 113 = .ok (.aload 4, 2) := by decide +kernel
theorem dX9_reach_115 : decode cX9_reach 115 = .ok (.iload 10, 2) := by decide +kernel
theorem dX9_reach_117 : decode cX9_reach 117 = .ok (.iaload, 1) := by decide +kernel
theorem dX9_reach_118 : decode cX9_reach 118 = .ok (.iload 7, 2) := by decide +kernel
theorem dX9_reach_120 : decode cX9_reach 120 = .ok (.if_icmp .gt 39, 3) := by decide +kernel
theorem dX9_reach_123 : decode cX9_reach 123 = .ok (.aload 4, 2) := by decide +kernel
theorem dX9_reach_125 : decode cX9_reach 125 = .ok (.iload 9, 2) := by decide +kernel
theorem dX9_reach_127 : decode cX9_reach 127 = .ok (.iaload, 1) := by decide +kernel
theorem dX9_reach_128 : decode cX9_reach 128 = .ok (.ldc 77, 2) := by decide +kernel
theorem dX9_reach_130 : decode cX9_reach 130 = .ok (.if_icmp .ne 29, 3) := by decide +kernel
theorem dX9_reach_133 : decode cX9_reach 133 = .ok (.aload 4, 2) := by decide +kernel
theorem dX9_reach_135 : decode cX9_reach 135 = .ok (.iload 9, 2) := by decide +kernel
theorem dX9_reach_137 : decode cX9_reach 137 = .ok (.iload 7, 2) := by decide +kernel
theorem dX9_reach_139 : decode cX9_reach 139 = .ok (.aload_n 0, 1) := by decide +kernel
theorem dX9_reach_140 : decode cX9_reach 140 = .ok (.getfield 36, 3) := by decide +kernel
theorem dX9_reach_143 : decode cX9_reach 143 = .ok (.iadd, 1) := by decide +kernel
theorem dX9_reach_144 : decode cX9_reach 144 = .ok (.iastore, 1) := by decide +kernel
theorem dX9_reach_145 : decode cX9_reach 145 = .ok (.iload 5, 2) := by decide +kernel
theorem dX9_reach_147 : decode cX9_reach 147 = .ok (.iconst 1, 1) := by decide +kernel
theorem dX9_reach_148 : decode cX9_reach 148 = .ok (.iload 9, 2) := by decide +kernel
theorem dX9_reach_150 : decode cX9_reach 150 = .ok (.ishl, 1) := by decide +kernel
theorem dX9_reach_151 : decode cX9_reach 151 = .ok (.iconst (-1), 1) := by decide +kernel
theorem dX9_reach_152 : decode cX9_reach 152 = .ok (.ixor, 1) := by decide +kernel
theorem dX9_reach_153 : decode cX9_reach 153 = .ok (.iand, 1) := by decide +kernel
theorem dX9_reach_154 : decode cX9_reach 154 = .ok (.istore 5, 2) := by decide +kernel
theorem dX9_reach_156 : decode cX9_reach 156 = .ok (.goto 46, 3) := by decide +kernel
theorem dX9_reach_159 : decode cX9_reach 159 = .ok (.aload 4, 2) := by decide +kernel
theorem dX9_reach_161 : decode cX9_reach 161 = .ok (.iload 9, 2) := by decide +kernel
theorem dX9_reach_163 : decode cX9_reach 163 = .ok (.iaload, 1) := by decide +kernel
theorem dX9_reach_164 : decode cX9_reach 164 = .ok (.iload 7, 2) := by decide +kernel
theorem dX9_reach_166 : decode cX9_reach 166 = .ok (.if_icmp .gt 36, 3) := by decide +kernel
theorem dX9_reach_169 : decode cX9_reach 169 = .ok (.aload 4, 2) := by decide +kernel
theorem dX9_reach_171 : decode cX9_reach 171 = .ok (.iload 10, 2) := by decide +kernel
theorem dX9_reach_173 : decode cX9_reach 173 = .ok (.iaload, 1) := by decide +kernel
theorem dX9_reach_174 : decode cX9_reach 174 = .ok (.ldc 77, 2) := by decide +kernel
theorem dX9_reach_176 : decode cX9_reach 176 = .ok (.if_icmp .ne 26, 3) := by decide +kernel
theorem dX9_reach_179 : decode cX9_reach 179 = .ok (.aload 4, 2) := by decide +kernel
theorem dX9_reach_181 : decode cX9_reach 181 = .ok (.iload 10, 2) := by decide +kernel
theorem dX9_reach_183 : decode cX9_reach 183 = .ok (.iload 7, 2) := by decide +kernel
theorem dX9_reach_185 : decode cX9_reach 185 = .ok (.aload_n 0, 1) := by decide +kernel
theorem dX9_reach_186 : decode cX9_reach 186 = .ok (.getfield 36, 3) := by decide +kernel
theorem dX9_reach_189 : decode cX9_reach 189 = .ok (.iadd, 1) := by decide +kernel
theorem dX9_reach_190 : decode cX9_reach 190 = .ok (.iastore, 1) := by decide +kernel
theorem dX9_reach_191 : decode cX9_reach 191 = .ok (.iload 5, 2) := by decide +kernel
theorem dX9_reach_193 : decode cX9_reach 193 = .ok (.iconst 1, 1) := by decide +kernel
theorem dX9_reach_194 : decode cX9_reach 194 = .ok (.iload 10, 2) := by decide +kernel
theorem dX9_reach_196 : decode cX9_reach 196 = .ok (.ishl, 1) := by decide +kernel
theorem dX9_reach_197 : decode cX9_reach 197 = .ok (.iconst (-1), 1) := by decide +kernel
theorem dX9_reach_198 : decode cX9_reach 198 = .ok (.ixor, 1) := by decide +kernel
theorem dX9_reach_199 : decode cX9_reach 199 = .ok (.iand, 1) := by decide +kernel
theorem dX9_reach_200 : decode cX9_reach 200 = .ok (.istore 5, 2) := by decide +kernel
theorem dX9_reach_202 : decode cX9_reach 202 = .ok (.iinc 8 1, 3) := by decide +kernel
theorem dX9_reach_205 : decode cX9_reach 205 = .ok (.goto (-129), 3) := by decide +kernel
theorem dX9_reach_208 : decode cX9_reach 208 = .ok (.iinc 7 1, 3) := by decide +kernel
theorem dX9_reach_211 : decode cX9_reach 211 = .ok (.goto (-150), 3) := by decide +kernel
theorem dX9_reach_214 : decode cX9_reach 214 = .ok (.return_, 1) := by decide +kernel
theorem dX9_everReached_0 : decode cX9_everReached 0 = .ok (.iconst 1, 1) := by decide +kernel
theorem dX9_everReached_1 : decode cX9_everReached 1 = .ok (.iload_n 1, 1) := by decide +kernel
theorem dX9_everReached_2 : decode cX9_everReached 2 = .ok (.ishl, 1) := by decide +kernel
theorem dX9_everReached_3 : decode cX9_everReached 3 = .ok (.istore_n 2, 1) := by decide +kernel
theorem dX9_everReached_4 : decode cX9_everReached 4 = .ok (.iconst 0, 1) := by decide +kernel
theorem dX9_everReached_5 : decode cX9_everReached 5 = .ok (.istore_n 3, 1) := by decide +kernel
theorem dX9_everReached_6 : decode cX9_everReached 6 = .ok (.iload_n 3, 1) := by decide +kernel
theorem dX9_everReached_7 : decode cX9_everReached 7 = .ok (.bipush 8, 2) := by decide +kernel
theorem dX9_everReached_9 : decode cX9_everReached 9 = .ok (.if_icmp .ge 49, 3) := by decide +kernel
theorem dX9_everReached_12 : decode cX9_everReached 12 = .ok (.iconst 0, 1) := by decide +kernel
theorem dX9_everReached_13 : decode cX9_everReached 13 = .ok (.istore 4, 2) := by decide +kernel
theorem dX9_everReached_15 : decode cX9_everReached 15 = .ok (.iload 4, 2) := by decide +kernel
theorem dX9_everReached_17 : decode cX9_everReached 17 = .ok (.aload_n 0, 1) := by decide +kernel
theorem dX9_everReached_18 : decode cX9_everReached 18 = .ok (.getfield 39, 3) := by decide +kernel
theorem dX9_everReached_21 : decode cX9_everReached 21 = .ok (.if_icmp .ge 31, 3) := by decide +kernel
theorem dX9_everReached_24 : decode cX9_everReached 24 = .ok (.aload_n 0, 1) := by decide +kernel
theorem dX9_everReached_25 : decode cX9_everReached 25 = .ok (.getfield 20, 3) := by decide +kernel
theorem dX9_everReached_28 : decode cX9_everReached 28 = .ok (.iload 4, 2) := by decide +kernel
theorem dX9_everReached_30 : decode cX9_everReached 30 = .ok (.iaload, 1) := by decide +kernel
theorem dX9_everReached_31 : decode cX9_everReached 31 = .ok (.iload_n 2, 1) := by decide +kernel
theorem dX9_everReached_32 : decode cX9_everReached 32 = .ok (.iand, 1) := by decide +kernel
theorem dX9_everReached_33 : decode cX9_everReached 33 = .ok (.ifCond .eq 13, 3) := by decide +kernel
theorem dX9_everReached_36 : decode cX9_everReached 36 = .ok (.iload_n 2, 1) := by decide +kernel
theorem dX9_everReached_37 : decode cX9_everReached 37 = .ok (.aload_n 0, 1) := by decide +kernel
theorem dX9_everReached_38 : decode cX9_everReached 38 = .ok (.getfield 20, 3) := by decide +kernel
theorem dX9_everReached_41 : decode cX9_everReached 41 = .ok (.iload 4, 2) := by decide +kernel
theorem dX9_everReached_43 : decode cX9_everReached 43 = .ok (.iaload, 1) := by decide +kernel
theorem dX9_everReached_44 : decode cX9_everReached 44 = .ok (.ior, 1) := by decide +kernel
theorem dX9_everReached_45 : decode cX9_everReached 45 = .ok (.istore_n 2, 1) := by decide +kernel
theorem dX9_everReached_46 : decode cX9_everReached 46 = .ok (.iinc 4 1, 3) := by decide +kernel
theorem dX9_everReached_49 : decode cX9_everReached 49 = .ok (.goto (-34), 3) := by decide +kernel
theorem dX9_everReached_52 : decode cX9_everReached 52 = .ok (.iinc 3 1, 3) := by decide +kernel
theorem dX9_everReached_55 : decode cX9_everReached 55 = .ok (.goto (-49), 3) := by decide +kernel
theorem dX9_everReached_58 : decode cX9_everReached 58 = .ok (.iload_n 2, 1) := by decide +kernel
theorem dX9_everReached_59 : decode cX9_everReached 59 = .ok (.ireturn, 1) := by decide +kernel
theorem dX9_latestStart_0 : decode cX9_latestStart 0 = .ok (.iload_n 1, 1) := by decide +kernel
theorem dX9_latestStart_1 : decode cX9_latestStart 1 = .ok (.invokestatic 85, 3) := by decide +kernel
theorem dX9_latestStart_4 : decode cX9_latestStart 4 = .ok (.ifCond .eq 10, 3) := by decide +kernel
theorem dX9_latestStart_7 : decode cX9_latestStart 7 = .ok (.iload_n 2, 1) := by decide +kernel
theorem dX9_latestStart_8 : decode cX9_latestStart 8 = .ok (.invokestatic 85, 3) := by decide +kernel
theorem dX9_latestStart_11 : decode cX9_latestStart 11 = .ok (.ifCond .ne 5, 3) := by decide +kernel
theorem dX9_latestStart_14 : decode cX9_latestStart 14 = .ok (.iconst (-1), 1) := by decide +kernel
theorem dX9_latestStart_15 : decode cX9_latestStart 15 = .ok (.ireturn, 1) := by decide +kernel
theorem dX9_latestStart_16 : decode cX9_latestStart 16 = .ok (.aload_n 0, 1) := by decide +kernel
theorem dX9_latestStart_17 : decode cX9_latestStart 17 = .ok (.getfield 26, 3) := by decide +kernel
theorem dX9_latestStart_20 : decode cX9_latestStart 20 = .ok (.iconst (-1), 1) := by decide +kernel
theorem dX9_latestStart_21 : decode cX9_latestStart 21 = .ok (.invokestatic 67, 3) := by decide +kernel
theorem dX9_latestStart_24 : decode cX9_latestStart 24 = .ok (.aload_n 0, 1) := by decide +kernel
theorem dX9_latestStart_25 : decode cX9_latestStart 25 = .ok (.getfield 26, 3) := by decide +kernel
theorem dX9_latestStart_28 : decode cX9_latestStart 28 = .ok (.iload_n 2, 1) := by decide +kernel
theorem dX9_latestStart_29 : decode cX9_latestStart 29 = .ok (.aload_n 0, 1) := by decide +kernel
theorem dX9_latestStart_30 : decode cX9_latestStart 30 = .ok (.getfield 33, 3) := by decide +kernel
theorem dX9_latestStart_33 : decode cX9_latestStart 33 = .ok (.iastore, 1) := by decide +kernel
theorem dX9_latestStart_34 : decode cX9_latestStart 34 = .ok (.aload_n 0, 1) := by decide +kernel
theorem dX9_latestStart_35 : decode cX9_latestStart 35 = .ok (.getfield 33, 3) := by decide +kernel
theorem dX9_latestStart_38 : decode cX9_latestStart 38 = .ok (.aload_n 0, 1) := by decide +kernel
theorem dX9_latestStart_39 : decode cX9_latestStart 39 = .ok (.getfield 36, 3) := by decide +kernel
theorem dX9_latestStart_42 : decode cX9_latestStart 42 = .ok (.isub, 1) := by decide +kernel
theorem dX9_latestStart_43 : decode cX9_latestStart 43 = .ok (.istore_n 3, 1) := by decide +kernel
theorem dX9_latestStart_44 : decode cX9_latestStart 44 = .ok (.iload_n 3, 1) := by decide +kernel
theorem dX9_latestStart_45 : decode cX9_latestStart 45 = .ok (.ifCond .lt 137, 3) := by decide +kernel
theorem dX9_latestStart_48 : decode cX9_latestStart 48 = .ok (.aload_n 0, 1) := by decide +kernel
theorem dX9_latestStart_49 : decode cX9_latestStart 49 = .ok (.getfield 26, 3) := by decide +kernel
theorem dX9_latestStart_52 : decode cX9_latestStart 52 = .ok (.iload_n 1, 1) := by decide +kernel
theorem dX9_latestStart_53 : decode cX9_latestStart 53 = .ok (.iaload, 1) := by decide +kernel
theorem dX9_latestStart_54 : decode cX9_latestStart 54 = .ok (.iconst (-1), 1) := by decide +kernel
theorem dX9_latestStart_55 : decode cX9_latestStart 55 = .ok (.if_icmp .ne 127, 3) := by decide +kernel
theorem dX9_latestStart_58 : decode cX9_latestStart 58 = .ok (.iconst 0, 1) := by decide +kernel
theorem dX9_latestStart_59 : decode cX9_latestStart 59 = .ok (.istore 4, 2) := by decide +kernel
theorem dX9_latestStart_61 : decode cX9_latestStart 61 = .ok (.iload 4, 2) := by decide +kernel
theorem dX9_latestStart_63 : decode cX9_latestStart 63 = .ok (.aload_n 0, 1) := by decide +kernel
theorem dX9_latestStart_64 : decode cX9_latestStart 64 = .ok (.getfield 39, 3) := by decide +kernel
theorem dX9_latestStart_67 : decode cX9_latestStart 67 = .ok (.if_icmp .ge 109, 3) := by decide +kernel
theorem dX9_latestStart_70 : decode cX9_latestStart 70 = .ok (.aload_n 0, 1) := by decide +kernel
theorem dX9_latestStart_71 : decode cX9_latestStart 71 = .ok (.iload 4, 2) := by decide +kernel
theorem dX9_latestStart_73 : decode cX9_latestStart 73 = .ok (.iload_n 3, 1) := by decide +kernel
theorem dX9_latestStart_74 : decode cX9_latestStart 74 = .ok (.invokevirtual 82, 3) := by decide +kernel
theorem dX9_latestStart_77 : decode cX9_latestStart 77 = .ok (.istore 5, 2) := by decide +kernel
theorem dX9_latestStart_79 : decode cX9_latestStart 79 = .ok (.iload 5, 2) := by decide +kernel
theorem dX9_latestStart_81 : decode cX9_latestStart 81 = .ok (.iconst (-1), 1) := by decide +kernel
theorem dX9_latestStart_82 : decode cX9_latestStart 82 = .ok (.if_icmp .ne 6, 3) := by decide +kernel
theorem dX9_latestStart_85 : decode cX9_latestStart 85 = .ok (.goto 85, 3) := by decide +kernel
theorem dX9_latestStart_88 : decode cX9_latestStart 88 = .ok (.aload_n 0, 1) := by decide +kernel
theorem dX9_latestStart_89 : decode cX9_latestStart 89 = .ok (.getfield 16, 3) := by decide +kernel
theorem dX9_latestStart_92 : decode cX9_latestStart 92 = .ok (.iload 4, 2) := by decide +kernel
theorem dX9_latestStart_94 : decode cX9_latestStart 94 = .ok (.iaload, 1) := by decide +kernel
theorem dX9_latestStart_95 : decode cX9_latestStart 95 = .ok (.istore 6, 2) := by decide +kernel
theorem dX9_latestStart_97 : decode cX9_latestStart 97 = .ok (.aload_n 0, 1) := by decide +kernel
theorem dX9_latestStart_98 : decode cX9_latestStart 98 = .ok (.getfield 26, 3) := by decide +kernel
theorem dX9_latestStart_101 : decode cX9_latestStart 101 = .ok (.iload 6, 2) := by decide +kernel
theorem dX9_latestStart_103 : decode cX9_latestStart 103 = .ok (.iaload, 1) := by decide +kernel
theorem dX9_latestStart_104 : decode cX9_latestStart 104 = .ok (.iload_n 3, 1) := by decide +kernel
theorem dX9_latestStart_105 : decode cX9_latestStart 105 = .ok (.aload_n 0, 1) := by decide +kernel
theorem dX9_latestStart_106 : decode cX9_latestStart 106 = .ok (.getfield 36, 3) := by decide +kernel
theorem dX9_latestStart_109 : decode cX9_latestStart 109 = .ok (.iadd, 1) := by decide +kernel
theorem dX9_latestStart_110 : decode cX9_latestStart 110 = .ok (.if_icmp .lt 25, 3) := by decide +kernel
theorem dX9_latestStart_113 : decode cX9_latestStart 113 = .ok (.aload_n 0, 1) := by decide +kernel
theorem dX9_latestStart_114 : decode cX9_latestStart 114 = .ok (.getfield 26, 3) := by decide +kernel
theorem dX9_latestStart_117 : decode cX9_latestStart 117 = .ok (.iload 5, 2) := by decide +kernel
theorem dX9_latestStart_119 : decode cX9_latestStart 119 = .ok (.iaload, 1) := by decide +kernel
theorem dX9_latestStart_120 : decode cX9_latestStart 120 = .ok (.iconst (-1), 1) := by decide +kernel
theorem dX9_latestStart_121 : decode cX9_latestStart 121 = .ok (.if_icmp .ne 14, 3) := by decide +kernel
theorem dX9_latestStart_124 : decode cX9_latestStart 124 = .ok (.aload_n 0, 1) := by decide +kernel
theorem dX9_latestStart_125 : decode cX9_latestStart 125 = .ok (.getfield 26, 3) := by decide +kernel
theorem dX9_latestStart_128 : decode cX9_latestStart 128 = .ok (.iload 5, 2) := by decide +kernel
theorem dX9_latestStart_130 : decode cX9_latestStart 130 = .ok (.iload_n 3, 1) := by decide +kernel
theorem dX9_latestStart_131 : decode cX9_latestStart 131 = .ok (.iastore, 1) := by decide +kernel
theorem dX9_latestStart_132 : decode cX9_latestStart 132 = .ok (.goto 38, 3) := by decide +kernel
theorem dX9_latestStart_135 : decode cX9_latestStart 135 = .ok (.aload_n 0, 1) := by decide +kernel
theorem dX9_latestStart_136 : decode cX9_latestStart 136 = .ok (.getfield 26, 3) := by decide +kernel
theorem dX9_latestStart_139 : decode cX9_latestStart 139 = .ok (.iload 5, 2) := by decide +kernel
theorem dX9_latestStart_141 : decode cX9_latestStart 141 = .ok (.iaload, 1) := by decide +kernel
theorem dX9_latestStart_142 : decode cX9_latestStart 142 = .ok (.iload_n 3, 1) := by decide +kernel
theorem dX9_latestStart_143 : decode cX9_latestStart 143 = .ok (.aload_n 0, 1) := by decide +kernel
theorem dX9_latestStart_144 : decode cX9_latestStart 144 = .ok (.getfield 36, 3) := by decide +kernel
theorem dX9_latestStart_147 : decode cX9_latestStart 147 = .ok (.iadd, 1) := by decide +kernel
theorem dX9_latestStart_148 : decode cX9_latestStart 148 = .ok (.if_icmp .lt 22, 3) := by decide +kernel
theorem dX9_latestStart_151 : decode cX9_latestStart 151 = .ok (.aload_n 0, 1) := by decide +kernel
theorem dX9_latestStart_152 : decode cX9_latestStart 152 = .ok (.getfield 26, 3) := by decide +kernel
theorem dX9_latestStart_155 : decode cX9_latestStart 155 = .ok (.iload 6, 2) := by decide +kernel
theorem dX9_latestStart_157 : decode cX9_latestStart 157 = .ok (.iaload, 1) := by decide +kernel
theorem dX9_latestStart_158 : decode cX9_latestStart 158 = .ok (.iconst (-1), 1) := by decide +kernel
theorem dX9_latestStart_159 : decode cX9_latestStart 159 = .ok (.if_icmp .ne 11, 3) := by decide +kernel
theorem dX9_latestStart_162 : decode cX9_latestStart 162 = .ok (.aload_n 0, 1) := by decide +kernel
theorem dX9_latestStart_163 : decode cX9_latestStart 163 = .ok (.getfield 26, 3) := by decide +kernel
theorem dX9_latestStart_166 : decode cX9_latestStart 166 = .ok (.iload 6, 2) := by decide +kernel
theorem dX9_latestStart_168 : decode cX9_latestStart 168 = .ok (.iload_n 3, 1) := by decide +kernel
theorem dX9_latestStart_169 : decode cX9_latestStart 169 = .ok (.iastore, 1) := by decide +kernel
theorem dX9_latestStart_170 : decode cX9_latestStart 170 = .ok (.iinc 4 1, 3) := by decide +kernel
theorem dX9_latestStart_173 : decode cX9_latestStart 173 = .ok (.goto (-112), 3) := by decide +kernel
theorem dX9_latestStart_176 : decode cX9_latestStart 176 = .ok (.iinc 3 (-1), 3) := by decide +kernel
theorem dX9_latestStart_179 : decode cX9_latestStart 179 = .ok (.goto (-135), 3) := by decide +kernel
theorem dX9_latestStart_182 : decode cX9_latestStart 182 = .ok (.aload_n 0, 1) := by decide +kernel
theorem dX9_latestStart_183 : decode cX9_latestStart 183 = .ok (.getfield 26, 3) := by decide +kernel
theorem dX9_latestStart_186 : decode cX9_latestStart 186 = .ok (.iload_n 1, 1) := by decide +kernel
theorem dX9_latestStart_187 : decode cX9_latestStart 187 = .ok (.iaload, 1) := by decide +kernel
theorem dX9_latestStart_188 : decode cX9_latestStart 188 = .ok (.ireturn, 1) := by decide +kernel
theorem dX9_foresee_0 : decode cX9_foresee 0 = .ok (.iload_n 1, 1) := by decide +kernel
theorem dX9_foresee_1 : decode cX9_foresee 1 = .ok (.invokestatic 85, 3) := by decide +kernel
theorem dX9_foresee_4 : decode cX9_foresee 4 = .ok (.ifCond .ne 4, 3) := by decide +kernel
theorem dX9_foresee_7 : decode cX9_foresee 7 = .ok (.return_, 1) := by decide +kernel
theorem dX9_foresee_8 : decode cX9_foresee 8 = .ok (.aload_n 0, 1) := by decide +kernel
theorem dX9_foresee_9 : decode cX9_foresee 9 = .ok (.getfield 33, 3) := by decide +kernel
theorem dX9_foresee_12 : decode cX9_foresee 12 = .ok (.sipush 459, 3) := by decide +kernel
theorem dX9_foresee_15 : decode cX9_foresee 15 = .ok (.invokestatic 42, 3) := by decide +kernel
theorem dX9_foresee_18 : decode cX9_foresee 18 = .ok (.istore_n 2, 1) := by decide +kernel
theorem dX9_foresee_19 : decode cX9_foresee 19 = .ok (.iload_n 2, 1) := by decide +kernel
theorem dX9_foresee_20 : decode cX9_foresee 20 = .ok (.istore_n 3, 1) := by decide +kernel
theorem dX9_foresee_21 : decode cX9_foresee 21 = .ok (.iload_n 3, 1) := by decide +kernel
theorem dX9_foresee_22 : decode cX9_foresee 22 = .ok (.ifCond .lt 176, 3) := by decide +kernel
theorem dX9_foresee_25 : decode cX9_foresee 25 = .ok (.iconst 0, 1) := by decide +kernel
theorem dX9_foresee_26 : decode cX9_foresee 26 = .ok (.istore 4, 2) := by decide +kernel
theorem dX9_foresee_28 : decode cX9_foresee 28 = .ok (.iload 4, 2) := by decide +kernel
theorem dX9_foresee_30 : decode cX9_foresee 30 = .ok (.bipush 8, 2) := by decide +kernel
theorem dX9_foresee_32 : decode cX9_foresee 32 = .ok (.if_icmp .ge 39, 3) := by decide +kernel
theorem dX9_foresee_35 : decode cX9_foresee 35 = .ok (.aload_n 0, 1) := by decide +kernel
theorem dX9_foresee_36 : decode cX9_foresee 36 = .ok (.getfield 23, 3) := by decide +kernel
theorem dX9_foresee_39 : decode cX9_foresee 39 = .ok (.iload 4, 2) := by decide +kernel
theorem dX9_foresee_41 : decode cX9_foresee 41 = .ok (.aaload, 1) := by decide +kernel
theorem dX9_foresee_42 : decode cX9_foresee 42 = .ok (.iload_n 3, 1) := by decide +kernel
theorem dX9_foresee_43 : decode cX9_foresee 43 = .ok (.iload_n 3, 1) := by decide +kernel
theorem dX9_foresee_44 : decode cX9_foresee 44 = .ok (.iload_n 2, 1) := by decide +kernel
theorem dX9_foresee_45 : decode cX9_foresee 45 = .ok (.if_icmp .ne 8, 3) := by decide +kernel
theorem dX9_foresee_48 : decode cX9_foresee 48 = .ok (.ldc 77, 2) := by decide +kernel
theorem dX9_foresee_50 : decode cX9_foresee 50 = .ok (.goto 14, 3) := by decide +kernel
theorem dX9_foresee_53 : decode cX9_foresee 53 = .ok (.aload_n 0, 1) := by decide +kernel
theorem dX9_foresee_54 : decode cX9_foresee 54 = .ok (.getfield 23, 3) := by decide +kernel
theorem dX9_foresee_57 : decode cX9_foresee 57 = .ok (.iload 4, 2) := by decide +kernel
theorem dX9_foresee_59 : decode cX9_foresee 59 = .ok (.aaload, 1) := by decide +kernel
theorem dX9_foresee_60 : decode cX9_foresee 60 = .ok (.iload_n 3, 1) := by decide +kernel
theorem dX9_foresee_61 : decode cX9_foresee 61 = .ok (.iconst 1, 1) := by decide +kernel
theorem dX9_foresee_62 : decode cX9_foresee 62 = .ok (.iadd, 1) := by decide +kernel
theorem dX9_foresee_63 : decode cX9_foresee 63 = .ok (.iaload, 1) := by decide +kernel
theorem dX9_foresee_64 : decode cX9_foresee 64 = .ok (.iastore, 1) := by decide +kernel
theorem dX9_foresee_65 : decode cX9_foresee 65 = .ok (.iinc 4 1, 3) := by decide +kernel
theorem dX9_foresee_68 : decode cX9_foresee 68 = .ok (.goto (-40), 3) := by decide +kernel
theorem dX9_foresee_71 : decode cX9_foresee 71 = .ok (.aload_n 0, 1) := by decide +kernel
theorem dX9_foresee_72 : decode cX9_foresee 72 = .ok (.getfield 23, 3) := by decide +kernel
theorem dX9_foresee_75 : decode cX9_foresee 75 = .ok (.iload_n 1, 1) := by decide +kernel
theorem dX9_foresee_76 : decode cX9_foresee 76 = .ok (.aaload, 1) := by decide +kernel
theorem dX9_foresee_77 : decode cX9_foresee 77 = .ok (.iload_n 3, 1) := by decide +kernel
theorem dX9_foresee_78 : decode cX9_foresee 78 = .ok (.iload_n 3, 1) := by decide +kernel
theorem dX9_foresee_79 : decode cX9_foresee 79 = .ok (.iastore, 1) := by decide +kernel
theorem dX9_foresee_80 : decode cX9_foresee 80 = .ok (.iload_n 3, 1) := by decide +kernel
theorem dX9_foresee_81 : decode cX9_foresee 81 = .ok (.aload_n 0, 1) := by decide +kernel
theorem dX9_foresee_82 : decode cX9_foresee 82 = .ok (.getfield 36, 3) := by decide +kernel
theorem dX9_foresee_85 : decode cX9_foresee 85 = .ok (.iadd, 1) := by decide +kernel
theorem dX9_foresee_86 : decode cX9_foresee 86 = .ok (.iload_n 2, 1) := by decide +kernel
theorem dX9_foresee_87 : decode cX9_foresee 87 = .ok (.if_icmp .le 6, 3) := by decide +kernel
theorem dX9_foresee_90 : decode cX9_foresee 90 = .ok (.goto 102, 3) := by decide +kernel
theorem dX9_foresee_93 : decode cX9_foresee 93 = .ok (.iconst 0, 1) := by decide +kernel
theorem dX9_foresee_94 : decode cX9_foresee 94 = .ok (.istore 4, 2) := by decide +kernel
theorem dX9_foresee_96 : decode cX9_foresee 96 = .ok (.iload 4, 2) := by decide +kernel
theorem dX9_foresee_98 : decode cX9_foresee 98 = .ok (.aload_n 0, 1) := by decide +kernel
theorem dX9_foresee_99 : decode cX9_foresee 99 = .ok (.getfield 39, 3) := by decide +kernel
theorem dX9_foresee_102 : decode cX9_foresee 102 = .ok (.if_icmp .ge 90, 3) := by decide +kernel
theorem dX9_foresee_105 : decode cX9_foresee 105 = .ok (.aload_n 0, 1) := by decide +kernel
theorem dX9_foresee_106 : decode cX9_foresee 106 = .ok (.iload 4, 2) := by decide +kernel
theorem dX9_foresee_108 : decode cX9_foresee 108 = .ok (.iload_n 3, 1) := by decide +kernel
theorem dX9_foresee_109 : decode cX9_foresee 109 = .ok (.invokevirtual 82, 3) := by decide +kernel
theorem dX9_foresee_112 : decode cX9_foresee 112 = .ok (.istore 5, 2) := by decide +kernel
theorem dX9_foresee_114 : decode cX9_foresee 114 = .ok (.iload 5, 2) := by decide +kernel
theorem dX9_foresee_116 : decode cX9_foresee 116 = .ok (.iconst (-1), 1) := by decide +kernel
theorem dX9_foresee_117 : decode cX9_foresee 117 = .ok (.if_icmp .ne 6, 3) := by decide +kernel
theorem dX9_foresee_120 : decode cX9_foresee 120 = .ok (.goto 66, 3) := by decide +kernel
theorem dX9_foresee_123 : decode cX9_foresee 123 = .ok (.aload_n 0, 1) := by decide +kernel
theorem dX9_foresee_124 : decode cX9_foresee 124 = .ok (.getfield 23, 3) := by decide +kernel
theorem dX9_foresee_127 : decode cX9_foresee 127 = .ok (.aload_n 0, 1) := by decide +kernel
theorem dX9_foresee_128 : decode cX9_foresee 128 = .ok (.getfield 16, 3) := by decide +kernel
theorem dX9_foresee_131 : decode cX9_foresee 131 = .ok (.iload 4, 2) := by decide +kernel
theorem dX9_foresee_133 : decode cX9_foresee 133 = .ok (.iaload, 1) := by decide +kernel
theorem dX9_foresee_134 : decode cX9_foresee 134 = .ok (.aaload, 1) := by decide +kernel
theorem dX9_foresee_135 : decode cX9_foresee 135 = .ok (.astore 6, 2) := by decide +kernel
theorem dX9_foresee_137 : decode cX9_foresee 137 = .ok (.aload_n 0, 1) := by decide +kernel
theorem dX9_foresee_138 : decode cX9_foresee 138 = .ok (.getfield 23, 3) := by decide +kernel
theorem dX9_foresee_141 : decode cX9_foresee 141 = .ok (.iload 5, 2) := by decide +kernel
theorem dX9_foresee_143 : decode cX9_foresee 143 = .ok (.aaload, 1) := by decide +kernel
theorem dX9_foresee_144 : decode cX9_foresee 144 = .ok (.astore 7, 2) := by decide +kernel
theorem dX9_foresee_146 : decode cX9_foresee 146 = .ok (.aload 6, 2) := by decide +kernel
theorem dX9_foresee_148 : decode cX9_foresee 148 = .ok (.iload_n 3, 1) := by decide +kernel
theorem dX9_foresee_149 : decode cX9_foresee 149 = .ok (.aload 6, 2) := by decide +kernel
theorem dX9_foresee_151 : decode cX9_foresee 151 = .ok (.iload_n 3, 1) := by decide +kernel
theorem dX9_foresee_152 : decode cX9_foresee 152 = .ok (.iaload, 1) := by decide +kernel
theorem dX9_foresee_153 : decode cX9_foresee 153 = .ok (.aload 7, 2) := by decide +kernel
theorem dX9_foresee_155 : decode cX9_foresee 155 = .ok (.iload_n 3, 1) := by decide +kernel
theorem dX9_foresee_156 : decode cX9_foresee 156 = .ok (.aload_n 0, 1) := by decide +kernel
theorem dX9_foresee_157 : decode cX9_foresee 157 = .ok (.getfield 36, 3) := by decide +kernel
theorem dX9_foresee_160 : decode cX9_foresee 160 = .ok (.iadd, 1) := by decide +kernel
theorem dX9_foresee_161 : decode cX9_foresee 161 = .ok (.iaload, 1) := by decide +kernel
theorem dX9_foresee_162 : decode cX9_foresee 162 = .ok (.invokestatic 42, 3) := by decide +kernel
theorem dX9_foresee_165 : decode cX9_foresee 165 = .ok (.iastore, 1) := by decide +kernel
theorem dX9_foresee_166 : decode cX9_foresee 166 = .ok (.aload 7, 2) := by decide +kernel
theorem dX9_foresee_168 : decode cX9_foresee 168 = .ok (.iload_n 3, 1) := by decide +kernel
theorem dX9_foresee_169 : decode cX9_foresee 169 = .ok (.aload 7, 2) := by decide +kernel
theorem dX9_foresee_171 : decode cX9_foresee 171 = .ok (.iload_n 3, 1) := by decide +kernel
theorem dX9_foresee_172 : decode cX9_foresee 172 = .ok (.iaload, 1) := by decide +kernel
theorem dX9_foresee_173 : decode cX9_foresee 173 = .ok (.aload 6, 2) := by decide +kernel
theorem dX9_foresee_175 : decode cX9_foresee 175 = .ok (.iload_n 3, 1) := by decide +kernel
theorem dX9_foresee_176 : decode cX9_foresee 176 = .ok (.aload_n 0, 1) := by decide +kernel
theorem dX9_foresee_177 : decode cX9_foresee 177 = .ok (.getfield 36, 3) := by decide +kernel
theorem dX9_foresee_180 : decode cX9_foresee 180 = .ok (.iadd, 1) := by decide +kernel
theorem dX9_foresee_181 : decode cX9_foresee 181 = .ok (.iaload, 1) := by decide +kernel
theorem dX9_foresee_182 : decode cX9_foresee 182 = .ok (.invokestatic 42, 3) := by decide +kernel
theorem dX9_foresee_185 : decode cX9_foresee 185 = .ok (.iastore, 1) := by decide +kernel
theorem dX9_foresee_186 : decode cX9_foresee 186 = .ok (.iinc 4 1, 3) := by decide +kernel
theorem dX9_foresee_189 : decode cX9_foresee 189 = .ok (.goto (-93), 3) := by decide +kernel
theorem dX9_foresee_192 : decode cX9_foresee 192 = .ok (.iinc 3 (-1), 3) := by decide +kernel
theorem dX9_foresee_195 : decode cX9_foresee 195 = .ok (.goto (-174), 3) := by decide +kernel
theorem dX9_foresee_198 : decode cX9_foresee 198 = .ok (.return_, 1) := by decide +kernel
theorem dX9_waitFrom_0 : decode cX9_waitFrom 0 = .ok (.iload_n 1, 1) := by decide +kernel
theorem dX9_waitFrom_1 : decode cX9_waitFrom 1 = .ok (.invokestatic 85, 3) := by decide +kernel
theorem dX9_waitFrom_4 : decode cX9_waitFrom 4 = .ok (.ifCond .eq 21, 3) := by decide +kernel
theorem dX9_waitFrom_7 : decode cX9_waitFrom 7 = .ok (.iload_n 2, 1) := by decide +kernel
theorem dX9_waitFrom_8 : decode cX9_waitFrom 8 = .ok (.ifCond .lt 17, 3) := by decide +kernel
theorem dX9_waitFrom_11 : decode cX9_waitFrom 11 = .ok (.iload_n 2, 1) := by decide +kernel
theorem dX9_waitFrom_12 : decode cX9_waitFrom 12 = .ok (.bipush 60, 2) := by decide +kernel
theorem dX9_waitFrom_14 : decode cX9_waitFrom 14 = .ok (.if_icmp .ge 11, 3) := by decide +kernel
theorem dX9_waitFrom_17 : decode cX9_waitFrom 17 = .ok (.iload_n 2, 1) := by decide +kernel
theorem dX9_waitFrom_18 : decode cX9_waitFrom 18 = .ok (.aload_n 0, 1) := by decide +kernel
theorem dX9_waitFrom_19 : decode cX9_waitFrom 19 = .ok (.getfield 33, 3) := by decide +kernel
theorem dX9_waitFrom_22 : decode cX9_waitFrom 22 = .ok (.if_icmp .le 5, 3) := by decide +kernel
theorem dX9_waitFrom_25 : decode cX9_waitFrom 25 = .ok (.iconst (-1), 1) := by decide +kernel
theorem dX9_waitFrom_26 : decode cX9_waitFrom 26 = .ok (.ireturn, 1) := by decide +kernel
theorem dX9_waitFrom_27 : decode cX9_waitFrom 27 = .ok (.aload_n 0, 1) := by decide +kernel
theorem dX9_waitFrom_28 : decode cX9_waitFrom 28 = .ok (.getfield 23, 3) := by decide +kernel
theorem dX9_waitFrom_31 : decode cX9_waitFrom 31 = .ok (.iload_n 1, 1) := by decide +kernel
theorem dX9_waitFrom_32 : decode cX9_waitFrom 32 = .ok (.aaload, 1) := by decide +kernel
theorem dX9_waitFrom_33 : decode cX9_waitFrom 33 = .ok (.iload_n 2, 1) := by decide +kernel
theorem dX9_waitFrom_34 : decode cX9_waitFrom 34 = .ok (.iaload, 1) := by decide +kernel
theorem dX9_waitFrom_35 : decode cX9_waitFrom 35 = .ok (.istore_n 3, 1) := by decide +kernel
theorem dX9_waitFrom_36 : decode cX9_waitFrom 36 = .ok (.iload_n 3, 1) := by decide +kernel
theorem dX9_waitFrom_37 : decode cX9_waitFrom 37 = .ok (.ldc 77, 2) := by decide +kernel
theorem dX9_waitFrom_39 : decode cX9_waitFrom 39 = .ok (.if_icmp .eq 12, 3) := by decide +kernel
theorem dX9_waitFrom_42 : decode cX9_waitFrom 42 = .ok (.iload_n 3, 1) := by decide +kernel
theorem dX9_waitFrom_43 : decode cX9_waitFrom 43 = .ok (.iload_n 2, 1) := by decide +kernel
theorem dX9_waitFrom_44 : decode cX9_waitFrom 44 = .ok (.isub, 1) := by decide +kernel
theorem dX9_waitFrom_45 : decode cX9_waitFrom 45 = .ok (.sipush 400, 3) := by decide +kernel
theorem dX9_waitFrom_48 : decode cX9_waitFrom 48 = .ok (.if_icmp .le 7, 3) := by decide +kernel
theorem dX9_waitFrom_51 : decode cX9_waitFrom 51 = .ok (.iconst (-1), 1) := by decide +kernel
theorem dX9_waitFrom_52 : decode cX9_waitFrom 52 = .ok (.goto 6, 3) := by decide +kernel
theorem dX9_waitFrom_55 : decode cX9_waitFrom 55 = .ok (.iload_n 3, 1) := by decide +kernel
theorem dX9_waitFrom_56 : decode cX9_waitFrom 56 = .ok (.iload_n 2, 1) := by decide +kernel
theorem dX9_waitFrom_57 : decode cX9_waitFrom 57 = .ok (.isub, 1) := by decide +kernel
theorem dX9_waitFrom_58 : decode cX9_waitFrom 58 = .ok (.ireturn, 1) := by decide +kernel
theorem dX9_longestWait_0 : decode cX9_longestWait 0 = .ok (.iconst 0, 1) := by decide +kernel
theorem dX9_longestWait_1 : decode cX9_longestWait 1 = .ok (.istore_n 3, 1) := by decide +kernel
theorem dX9_longestWait_2 : decode cX9_longestWait 2 = .ok (.iconst 0, 1) := by decide +kernel
theorem dX9_longestWait_3 : decode cX9_longestWait 3 = .ok (.istore 4, 2) := by decide +kernel
theorem dX9_longestWait_5 : decode cX9_longestWait 5 = .ok (.iload 4, 2) := by decide +kernel
theorem dX9_longestWait_7 : decode cX9_longestWait 7 = .ok (.iload_n 2, 1) := by decide +kernel
theorem dX9_longestWait_8 : decode cX9_longestWait 8 = .ok (.if_icmp .ge 33, 3) := by decide +kernel
theorem dX9_longestWait_11 : decode cX9_longestWait 11 = .ok (.aload_n 0, 1) := by decide +kernel
theorem dX9_longestWait_12 : decode cX9_longestWait 12 = .ok (.iload_n 1, 1) := by decide +kernel
theorem dX9_longestWait_13 : decode cX9_longestWait 13 = .ok (.iload 4, 2) := by decide +kernel
theorem dX9_longestWait_15 : decode cX9_longestWait 15 = .ok (.invokevirtual 89, 3) := by decide +kernel
theorem dX9_longestWait_18 : decode cX9_longestWait 18 = .ok (.istore 5, 2) := by decide +kernel
theorem dX9_longestWait_20 : decode cX9_longestWait 20 = .ok (.iload 5, 2) := by decide +kernel
theorem dX9_longestWait_22 : decode cX9_longestWait 22 = .ok (.iconst (-1), 1) := by decide +kernel
theorem dX9_longestWait_23 : decode cX9_longestWait 23 = .ok (.if_icmp .ne 5, 3) := by decide +kernel
theorem dX9_longestWait_26 : decode cX9_longestWait 26 = .ok (.iconst (-1), 1) := by decide +kernel
theorem dX9_longestWait_27 : decode cX9_longestWait 27 = .ok (.ireturn, 1) := by decide +kernel
theorem dX9_longestWait_28 : decode cX9_longestWait 28 = .ok (.iload_n 3, 1) := by decide +kernel
theorem dX9_longestWait_29 : decode cX9_longestWait 29 = .ok (.iload 5, 2) := by decide +kernel
theorem dX9_longestWait_31 : decode cX9_longestWait 31 = .ok (.invokestatic 48, 3) := by decide +kernel
theorem dX9_longestWait_34 : decode cX9_longestWait 34 = .ok (.istore_n 3, 1) := by decide +kernel
theorem dX9_longestWait_35 : decode cX9_longestWait 35 = .ok (.iinc 4 1, 3) := by decide +kernel
theorem dX9_longestWait_38 : decode cX9_longestWait 38 = .ok (.goto (-33), 3) := by decide +kernel
theorem dX9_longestWait_41 : decode cX9_longestWait 41 = .ok (.iload_n 3, 1) := by decide +kernel
theorem dX9_longestWait_42 : decode cX9_longestWait 42 = .ok (.ireturn, 1) := by decide +kernel
theorem dX9_waitsTogether_0 : decode cX9_waitsTogether 0 = .ok (.iconst 0, 1) := by decide +kernel
theorem dX9_waitsTogether_1 : decode cX9_waitsTogether 1 = .ok (.istore_n 3, 1) := by decide +kernel
theorem dX9_waitsTogether_2 : decode cX9_waitsTogether 2 = .ok (.iconst 0, 1) := by decide +kernel
theorem dX9_waitsTogether_3 : decode cX9_waitsTogether 3 = .ok (.istore 4, 2) := by decide +kernel
theorem dX9_waitsTogether_5 : decode cX9_waitsTogether 5 = .ok (.iload 4, 2) := by decide +kernel
theorem dX9_waitsTogether_7 : decode cX9_waitsTogether 7 = .ok (.iload_n 2, 1) := by decide +kernel
theorem dX9_waitsTogether_8 : decode cX9_waitsTogether 8 = .ok (.if_icmp .ge 31, 3) := by decide +kernel
theorem dX9_waitsTogether_11 : decode cX9_waitsTogether 11 = .ok (.aload_n 0, 1) := by decide +kernel
theorem dX9_waitsTogether_12 : decode cX9_waitsTogether 12 = .ok (.iload_n 1, 1) := by decide +kernel
theorem dX9_waitsTogether_13 : decode cX9_waitsTogether 13 = .ok (.iload 4, 2) := by decide +kernel
theorem dX9_waitsTogether_15 : decode cX9_waitsTogether 15 = .ok (.invokevirtual 89, 3) := by decide +kernel
theorem dX9_waitsTogether_18 : decode cX9_waitsTogether 18 = .ok (.istore 5, 2) := by decide +kernel
theorem dX9_waitsTogether_20 : decode cX9_waitsTogether 20 = .ok (.iload 5, 2) := by decide +kernel
theorem dX9_waitsTogether_22 : decode cX9_waitsTogether 22 = .ok (.iconst (-1), 1) := by decide +kernel
theorem dX9_waitsTogether_23 : decode cX9_waitsTogether 23 = .ok (.if_icmp .ne 5, 3) := by decide +kernel
theorem dX9_waitsTogether_26 : decode cX9_waitsTogether 26 = .ok (.iconst (-1), 1) := by decide +kernel
theorem dX9_waitsTogether_27 : decode cX9_waitsTogether 27 = .ok (.ireturn, 1) := by decide +kernel
theorem dX9_waitsTogether_28 : decode cX9_waitsTogether 28 = .ok (.iload_n 3, 1) := by decide +kernel
theorem dX9_waitsTogether_29 : decode cX9_waitsTogether 29 = .ok (.iload 5, 2) := by decide +kernel
theorem dX9_waitsTogether_31 : decode cX9_waitsTogether 31 = .ok (.iadd, 1) := by decide +kernel
theorem dX9_waitsTogether_32 : decode cX9_waitsTogether 32 = .ok (.istore_n 3, 1) := by decide +kernel
theorem dX9_waitsTogether_33 : decode cX9_waitsTogether 33 = .ok (.iinc 4 1, 3) := by decide +kernel
theorem dX9_waitsTogether_36 : decode cX9_waitsTogether 36 = .ok (.goto (-31), 3) := by decide +kernel
theorem dX9_waitsTogether_39 : decode cX9_waitsTogether 39 = .ok (.iload_n 3, 1) := by decide +kernel
theorem dX9_waitsTogether_40 : decode cX9_waitsTogether 40 = .ok (.ireturn, 1) := by decide +kernel
theorem dX10_init_0 : decode cX10_init 0 = .ok (.aload_n 0, 1) := by decide +kernel
theorem dX10_init_1 : decode cX10_init 1 = .ok (.invokespecial 1, 3) := by decide +kernel
theorem dX10_init_4 : decode cX10_init 4 = .ok (.aload_n 0, 1) := by decide +kernel
theorem dX10_init_5 : decode cX10_init 5 = .ok (.new 7, 3) := by decide +kernel
theorem dX10_init_8 : decode cX10_init 8 = .ok (.dup, 1) := by decide +kernel
theorem dX10_init_9 : decode cX10_init 9 = .ok (.invokespecial 9, 3) := by decide +kernel
theorem dX10_init_12 : decode cX10_init 12 = .ok (.putfield 10, 3) := by decide +kernel
theorem dX10_init_15 : decode cX10_init 15 = .ok (.aload_n 0, 1) := by decide +kernel
theorem dX10_init_16 : decode cX10_init 16 = .ok (.new 16, 3) := by decide +kernel
theorem dX10_init_19 : decode cX10_init 19 = .ok (.dup, 1) := by decide +kernel
theorem dX10_init_20 : decode cX10_init 20 = .ok (.invokespecial 18, 3) := by decide +kernel
theorem dX10_init_23 : decode cX10_init 23 = .ok (.putfield 19, 3) := by decide +kernel
theorem dX10_init_26 : decode cX10_init 26 = .ok (.aload_n 0, 1) := by decide +kernel
theorem dX10_init_27 : decode cX10_init 27 = .ok (.new 23, 3) := by decide +kernel
theorem dX10_init_30 : decode cX10_init 30 = .ok (.dup, 1) := by decide +kernel
theorem dX10_init_31 : decode cX10_init 31 = .ok (.invokespecial 25, 3) := by decide +kernel
theorem dX10_init_34 : decode cX10_init 34 = .ok (.putfield 26, 3) := by decide +kernel
theorem dX10_init_37 : decode cX10_init 37 = .ok (.aload_n 0, 1) := by decide +kernel
theorem dX10_init_38 : decode cX10_init 38 = .ok (.new 30, 3) := by decide +kernel
theorem dX10_init_41 : decode cX10_init 41 = .ok (.dup, 1) := by decide +kernel
theorem dX10_init_42 : decode cX10_init 42 = .ok (.invokespecial 32, 3) := by decide +kernel
theorem dX10_init_45 : decode cX10_init 45 = .ok (.putfield 33, 3) := by decide +kernel
theorem dX10_init_48 : decode cX10_init 48 = .ok (.aload_n 0, 1) := by decide +kernel
theorem dX10_init_49 : decode cX10_init 49 = .ok (.new 37, 3) := by decide +kernel
theorem dX10_init_52 : decode cX10_init 52 = .ok (.dup, 1) := by decide +kernel
theorem dX10_init_53 : decode cX10_init 53 = .ok (.invokespecial 39, 3) := by decide +kernel
theorem dX10_init_56 : decode cX10_init 56 = .ok (.putfield 40, 3) := by decide +kernel
theorem dX10_init_59 : decode cX10_init 59 = .ok (.aload_n 0, 1) := by decide +kernel
theorem dX10_init_60 : decode cX10_init 60 = .ok (.new 44, 3) := by decide +kernel
theorem dX10_init_63 : decode cX10_init 63 = .ok (.dup, 1) := by decide +kernel
theorem dX10_init_64 : decode cX10_init 64 = .ok (.invokespecial 46, 3) := by decide +kernel
theorem dX10_init_67 : decode cX10_init 67 = .ok (.putfield 47, 3) := by decide +kernel
theorem dX10_init_70 : decode cX10_init 70 = .ok (.aload_n 0, 1) := by decide +kernel
theorem dX10_init_71 : decode cX10_init 71 = .ok (.new 51, 3) := by decide +kernel
theorem dX10_init_74 : decode cX10_init 74 = .ok (.dup, 1) := by decide +kernel
theorem dX10_init_75 : decode cX10_init 75 = .ok (.invokespecial 53, 3) := by decide +kernel
theorem dX10_init_78 : decode cX10_init 78 = .ok (.putfield 54, 3) := by decide +kernel
theorem dX10_init_81 : decode cX10_init 81 = .ok (.aload_n 0, 1) := by decide +kernel
theorem dX10_init_82 : decode cX10_init 82 = .ok (.bipush 8, 2) := by decide +kernel
theorem dX10_init_84 : decode cX10_init 84 = .ok (.newarray .int, 2) := by decide +kernel
theorem dX10_init_86 : decode cX10_init 86 = .ok (.putfield 58, 3) := by decide +kernel
theorem dX10_init_89 : decode cX10_init 89 = .ok (.aload_n 0, 1) := by decide +kernel
theorem dX10_init_90 : decode cX10_init 90 = .ok (.bipush 8, 2) := by decide +kernel
theorem dX10_init_92 : decode cX10_init 92 = .ok (.newarray .int, 2) := by decide +kernel
theorem dX10_init_94 : decode cX10_init 94 = .ok (.putfield 62, 3) := by decide +kernel
theorem dX10_init_97 : decode cX10_init 97 = .ok (.aload_n 0, 1) := by decide +kernel
theorem dX10_init_98 : decode cX10_init 98 = .ok (.iconst 0, 1) := by decide +kernel
theorem dX10_init_99 : decode cX10_init 99 = .ok (.putfield 65, 3) := by decide +kernel
theorem dX10_init_102 : decode cX10_init 102 = .ok (.return_, 1) := by decide +kernel
theorem dX10_letters_0 : decode cX10_letters 0 = .ok (.lload_n 1, 1) := by decide +kernel
theorem dX10_letters_1 : decode cX10_letters 1 = .ok (.invokestatic 69, 3) := by decide +kernel
theorem dX10_letters_4 : decode cX10_letters 4 = .ok (.istore_n 3, 1) := by decide +kernel
theorem dX10_letters_5 : decode cX10_letters 5 = .ok (.iload_n 3, 1) := by decide +kernel
theorem dX10_letters_6 : decode cX10_letters 6 = .ok (.bipush (-102), 2) := by decide +kernel
theorem dX10_letters_8 : decode cX10_letters 8 = .ok (.if_icmp .ne 6, 3) := by decide +kernel
theorem dX10_letters_11 : decode cX10_letters 11 = .ok (.bipush (-102), 2) := by decide +kernel
theorem dX10_letters_13 : decode cX10_letters 13 = .ok (.ireturn, 1) := by decide +kernel
theorem dX10_letters_14 : decode cX10_letters 14 = .ok (.aload_n 0, 1) := by decide +kernel
theorem dX10_letters_15 : decode cX10_letters 15 = .ok (.getfield 10, 3) := by decide +kernel
theorem dX10_letters_18 : decode cX10_letters 18 = .ok (.iload_n 3, 1) := by decide +kernel
theorem dX10_letters_19 : decode cX10_letters 19 = .ok (.invokevirtual 73, 3) := by decide +kernel
theorem dX10_letters_22 : decode cX10_letters 22 = .ok (.ifCond .ne 6, 3) := by decide +kernel
theorem dX10_letters_25 : decode cX10_letters 25 = .ok (.bipush (-104), 2) := by decide +kernel
theorem dX10_letters_27 : decode cX10_letters 27 = .ok (.ireturn, 1) := by decide +kernel
theorem dX10_letters_28 : decode cX10_letters 28 = .ok (.iconst 0, 1) := by decide +kernel
theorem dX10_letters_29 : decode cX10_letters 29 = .ok (.istore 4, 2) := by decide +kernel
theorem dX10_letters_31 : decode cX10_letters 31 = .ok (.iload 4, 2) := by decide +kernel
theorem dX10_letters_33 : decode cX10_letters 33 = .ok (.iload_n 3, 1) := by decide +kernel
theorem dX10_letters_34 : decode cX10_letters 34 = .ok (.if_icmp .ge 22, 3) := by decide +kernel
theorem dX10_letters_37 : decode cX10_letters 37 = .ok (.aload_n 0, 1) := by decide +kernel
theorem dX10_letters_38 : decode cX10_letters 38 = .ok (.getfield 10, 3) := by decide +kernel
theorem dX10_letters_41 : decode cX10_letters 41 = .ok (.lload_n 1, 1) := by decide +kernel
theorem dX10_letters_42 : decode cX10_letters 42 = .ok (.iload 4, 2) := by decide +kernel
theorem dX10_letters_44 : decode cX10_letters 44 = .ok (.invokestatic 77, 3) := by decide +kernel
theorem dX10_letters_47 : decode cX10_letters 47 = .ok (.invokevirtual 81, 3) := by decide +kernel
theorem dX10_letters_50 : decode cX10_letters 50 = .ok (.iinc 4 1, 3) := by decide +kernel
theorem dX10_letters_53 : decode cX10_letters 53 = .ok (.goto (-22), 3) := by decide +kernel
theorem dX10_letters_56 : decode cX10_letters 56 = .ok (.aload_n 0, 1) := by decide +kernel
theorem dX10_letters_57 : decode cX10_letters 57 = .ok (.getfield 10, 3) := by decide +kernel
theorem dX10_letters_60 : decode cX10_letters 60 = .ok (.invokevirtual 85, 3) := by decide +kernel
theorem dX10_letters_63 : decode cX10_letters 63 = .ok (.ireturn, 1) := by decide +kernel
theorem dX10_blank_0 : decode cX10_blank 0 = .ok (.aload_n 0, 1) := by decide +kernel
theorem dX10_blank_1 : decode cX10_blank 1 = .ok (.getfield 10, 3) := by decide +kernel
theorem dX10_blank_4 : decode cX10_blank 4 = .ok (.invokevirtual 89, 3) := by decide +kernel
theorem dX10_blank_7 : decode cX10_blank 7 = .ok (.ireturn, 1) := by decide +kernel
theorem dX10_fault_0 : decode cX10_fault 0 = .ok (.aload_n 0, 1) := by decide +kernel
theorem dX10_fault_1 : decode cX10_fault 1 = .ok (.getfield 10, 3) := by decide +kernel
theorem dX10_fault_4 : decode cX10_fault 4 = .ok (.aload_n 0, 1) := by decide +kernel
theorem dX10_fault_5 : decode cX10_fault 5 = .ok (.getfield 19, 3) := by decide +kernel
theorem dX10_fault_8 : decode cX10_fault 8 = .ok (.invokevirtual 92, 3) := by decide +kernel
theorem dX10_fault_11 : decode cX10_fault 11 = .ok (.ireturn, 1) := by decide +kernel
theorem dX10_bridge_0 : decode cX10_bridge 0 = .ok (.aload_n 0, 1) := by decide +kernel
theorem dX10_bridge_1 : decode cX10_bridge 1 = .ok (.getfield 10, 3) := by decide +kernel
theorem dX10_bridge_4 : decode cX10_bridge 4 = .ok (.aload_n 0, 1) := by decide +kernel
theorem dX10_bridge_5 : decode cX10_bridge 5 = .ok (.getfield 19, 3) := by decide +kernel
theorem dX10_bridge_8 : decode cX10_bridge 8 = .ok (.invokevirtual 92, 3) := by decide +kernel
theorem dX10_bridge_11 : decode cX10_bridge 11 = .ok (.aload_n 0, 1) := by decide +kernel
theorem dX10_bridge_12 : decode cX10_bridge 12 = .ok (.getfield 10, 3) := by decide +kernel
theorem dX10_bridge_15 : decode cX10_bridge 15 = .ok (.invokevirtual 85, 3) := by decide +kernel
theorem dX10_bridge_18 : decode cX10_bridge 18 = .ok (.if_icmp .lt 13, 3) := by decide +kernel
theorem dX10_bridge_21 : decode cX10_bridge 21 = .ok (.aload_n 0, 1) := by decide +kernel
theorem dX10_bridge_22 : decode cX10_bridge 22 = .ok (.getfield 19, 3) := by decide +kernel
theorem dX10_bridge_25 : decode cX10_bridge 25 = .ok (.invokevirtual 96, 3) := by decide +kernel
theorem dX10_bridge_28 : decode cX10_bridge 28 = .ok (.ifCond .ne 6, 3) := by decide +kernel
theorem dX10_bridge_31 : decode cX10_bridge 31 = .ok (.bipush (-103), 2) := by decide +kernel
theorem dX10_bridge_33 : decode cX10_bridge 33 = .ok (.ireturn, 1) := by decide +kernel
theorem dX10_bridge_34 : decode cX10_bridge 34 = .ok (.aload_n 0, 1) := by decide +kernel
theorem dX10_bridge_35 : decode cX10_bridge 35 = .ok (.getfield 26, 3) := by decide +kernel
theorem dX10_bridge_38 : decode cX10_bridge 38 = .ok (.invokevirtual 100, 3) := by decide +kernel
theorem dX10_bridge_41 : decode cX10_bridge 41 = .ok (.bipush 10, 2) := by decide +kernel
theorem dX10_bridge_43 : decode cX10_bridge 43 = .ok (.if_icmp .lt 6, 3) := by decide +kernel
theorem dX10_bridge_46 : decode cX10_bridge 46 = .ok (.bipush (-104), 2) := by decide +kernel
theorem dX10_bridge_48 : decode cX10_bridge 48 = .ok (.ireturn, 1) := by decide +kernel
theorem dX10_bridge_49 : decode cX10_bridge 49 = .ok (.aload_n 0, 1) := by decide +kernel
theorem dX10_bridge_50 : decode cX10_bridge 50 = .ok (.getfield 26, 3) := by decide +kernel
theorem dX10_bridge_53 : decode cX10_bridge 53 = .ok (.aload_n 0, 1) := by decide +kernel
theorem dX10_bridge_54 : decode cX10_bridge 54 = .ok (.getfield 19, 3) := by decide +kernel
theorem dX10_bridge_57 : decode cX10_bridge 57 = .ok (.invokevirtual 101, 3) := by decide +kernel
theorem dX10_bridge_60 : decode cX10_bridge 60 = .ok (.invokevirtual 105, 3) := by decide +kernel
theorem dX10_bridge_63 : decode cX10_bridge 63 = .ok (.pop, 1) := by decide +kernel
theorem dX10_bridge_64 : decode cX10_bridge 64 = .ok (.aload_n 0, 1) := by decide +kernel
theorem dX10_bridge_65 : decode cX10_bridge 65 = .ok (.getfield 10, 3) := by decide +kernel
theorem dX10_bridge_68 : decode cX10_bridge 68 = .ok (.invokevirtual 89, 3) := by decide +kernel
theorem dX10_bridge_71 : decode cX10_bridge 71 = .ok (.pop, 1) := by decide +kernel
theorem dX10_bridge_72 : decode cX10_bridge 72 = .ok (.aload_n 0, 1) := by decide +kernel
theorem dX10_bridge_73 : decode cX10_bridge 73 = .ok (.getfield 26, 3) := by decide +kernel
theorem dX10_bridge_76 : decode cX10_bridge 76 = .ok (.invokevirtual 100, 3) := by decide +kernel
theorem dX10_bridge_79 : decode cX10_bridge 79 = .ok (.iconst 1, 1) := by decide +kernel
theorem dX10_bridge_80 : decode cX10_bridge 80 = .ok (.isub, 1) := by decide +kernel
theorem dX10_bridge_81 : decode cX10_bridge 81 = .ok (.ireturn, 1) := by decide +kernel
theorem dX10_as_0 : decode cX10_as 0 = .ok (.aload_n 0, 1) := by decide +kernel
theorem dX10_as_1 : decode cX10_as 1 = .ok (.iload_n 1, 1) := by decide +kernel
theorem dX10_as_2 : decode cX10_as 2 = .ok (.invokevirtual 109, 3) := by decide +kernel
theorem dX10_as_5 : decode cX10_as 5 = .ok (.ifCond .ne 6, 3) := by decide +kernel
theorem dX10_as_8 : decode cX10_as 8 = .ok (.bipush (-101), 2) := by decide +kernel
theorem dX10_as_10 : decode cX10_as 10 = .ok (.ireturn, 1) := by decide +kernel
theorem dX10_as_11 : decode cX10_as 11 = .ok (.iload_n 2, 1) := by decide +kernel
theorem dX10_as_12 : decode cX10_as 12 = .ok (.ifCond .lt 8, 3) := by decide +kernel
theorem dX10_as_15 : decode cX10_as 15 = .ok (.iload_n 2, 1) := by decide +kernel
theorem dX10_as_16 : decode cX10_as 16 = .ok (.iconst 3, 1) := by decide +kernel
theorem dX10_as_17 : decode cX10_as 17 = .ok (.if_icmp .le 6, 3) := by decide +kernel
theorem dX10_as_20 : decode cX10_as 20 = .ok (.bipush (-102), 2) := by decide +kernel
theorem dX10_as_22 : decode cX10_as 22 = .ok (.ireturn, 1) := by decide +kernel
theorem dX10_as_23 : decode cX10_as 23 = .ok (.aload_n 0, 1) := by decide +kernel
theorem dX10_as_24 : decode cX10_as 24 = .ok (.getfield 26, 3) := by decide +kernel
theorem dX10_as_27 : decode cX10_as 27 = .ok (.iload_n 1, 1) := by decide +kernel
theorem dX10_as_28 : decode cX10_as 28 = .ok (.invokevirtual 112, 3) := by decide +kernel
theorem dX10_as_31 : decode cX10_as 31 = .ok (.checkcast 116, 3) := by decide +kernel
theorem dX10_as_34 : decode cX10_as 34 = .ok (.iload_n 2, 1) := by decide +kernel
theorem dX10_as_35 : decode cX10_as 35 = .ok (.invokestatic 118, 3) := by decide +kernel
theorem dX10_as_38 : decode cX10_as 38 = .ok (.ifCond .eq 7, 3) := by decide +kernel
theorem dX10_as_41 : decode cX10_as 41 = .ok (.iload_n 1, 1) := by decide +kernel
theorem dX10_as_42 : decode cX10_as 42 = .ok (.goto 4, 3) := by decide +kernel
theorem dX10_as_45 : decode cX10_as 45 = .ok (.iconst (-1), 1) := by decide +kernel
theorem dX10_as_46 : decode cX10_as 46 = .ok (.ireturn, 1) := by decide +kernel
theorem dX10_about_0 : decode cX10_about 0 = .ok (.aload_n 0, 1) := by decide +kernel
theorem dX10_about_1 : decode cX10_about 1 = .ok (.iload_n 1, 1) := by decide +kernel
theorem dX10_about_2 : decode cX10_about 2 = .ok (.invokevirtual 109, 3) := by decide +kernel
theorem dX10_about_5 : decode cX10_about 5 = .ok (.ifCond .ne 6, 3) := by decide +kernel
theorem dX10_about_8 : decode cX10_about 8 = .ok (.bipush (-101), 2) := by decide +kernel
theorem dX10_about_10 : decode cX10_about 10 = .ok (.ireturn, 1) := by decide +kernel
theorem dX10_about_11 : decode cX10_about 11 = .ok (.aload_n 0, 1) := by decide +kernel
theorem dX10_about_12 : decode cX10_about 12 = .ok (.aload_n 0, 1) := by decide +kernel
theorem dX10_about_13 : decode cX10_about 13 = .ok (.getfield 26, 3) := by decide +kernel
theorem dX10_about_16 : decode cX10_about 16 = .ok (.iload_n 1, 1) := by decide +kernel
theorem dX10_about_17 : decode cX10_about 17 = .ok (.invokevirtual 112, 3) := by decide +kernel
theorem dX10_about_20 : decode cX10_about 20 = .ok (.checkcast 116, 3) := by decide +kernel
theorem dX10_about_23 : decode cX10_about 23 = .ok (.iload_n 2, 1) := by decide +kernel
theorem dX10_about_24 : decode cX10_about 24 = .ok (.invokevirtual 122, 3) := by decide +kernel
theorem dX10_about_27 : decode cX10_about 27 = .ok (.ireturn, 1) := by decide +kernel
theorem dX10_offset_0 : decode cX10_offset 0 = .ok (.aload_n 0, 1) := by decide +kernel
theorem dX10_offset_1 : decode cX10_offset 1 = .ok (.iload_n 1, 1) := by decide +kernel
theorem dX10_offset_2 : decode cX10_offset 2 = .ok (.invokevirtual 109, 3) := by decide +kernel
theorem dX10_offset_5 : decode cX10_offset 5 = .ok (.ifCond .ne 6, 3) := by decide +kernel
theorem dX10_offset_8 : decode cX10_offset 8 = .ok (.bipush (-101), 2) := by decide +kernel
theorem dX10_offset_10 : decode cX10_offset 10 = .ok (.ireturn, 1) := by decide +kernel
theorem dX10_offset_11 : decode cX10_offset 11 = .ok (.iload_n 2, 1) := by decide +kernel
theorem dX10_offset_12 : decode cX10_offset 12 = .ok (.ifCond .lt 9, 3) := by decide +kernel
theorem dX10_offset_15 : decode cX10_offset 15 = .ok (.iload_n 2, 1) := by decide +kernel
theorem dX10_offset_16 : decode cX10_offset 16 = .ok (.bipush 9, 2) := by decide +kernel
theorem dX10_offset_18 : decode cX10_offset 18 = .ok (.if_icmp .le 6, 3) := by decide +kernel
theorem dX10_offset_21 : decode cX10_offset 21 = .ok (.bipush (-102), 2) := by decide +kernel
theorem dX10_offset_23 : decode cX10_offset 23 = .ok (.ireturn, 1) := by decide +kernel
theorem dX10_offset_24 : decode cX10_offset 24 = .ok (.aload_n 0, 1) := by decide +kernel
theorem dX10_offset_25 : decode cX10_offset 25 = .ok (.getfield 26, 3) := by decide +kernel
theorem dX10_offset_28 : decode cX10_offset 28 = .ok (.iload_n 1, 1) := by decide +kernel
theorem dX10_offset_29 : decode cX10_offset 29 = .ok (.invokevirtual 112, 3) := by decide +kernel
theorem dX10_offset_32 : decode cX10_offset 32 = .ok (.checkcast 116, 3) := by decide +kernel
theorem dX10_offset_35 : decode cX10_offset 35 = .ok (.astore_n 3, 1) := by decide +kernel
theorem dX10_offset_36 : decode cX10_offset 36 = .ok (.aload_n 3, 1) := by decide +kernel
theorem dX10_offset_37 : decode cX10_offset 37 = .ok (.getfield 126, 3) := by decide +kernel
theorem dX10_offset_40 : decode cX10_offset 40 = .ok (.istore 4, 2) := by decide +kernel
theorem dX10_offset_42 : decode cX10_offset 42 = .ok (.aload_n 3, 1) := by decide +kernel
theorem dX10_offset_43 : decode cX10_offset 43 = .ok (.iload_n 2, 1) := by decide +kernel
theorem dX10_offset_44 : decode cX10_offset 44 = .ok (.putfield 126, 3) := by decide +kernel
theorem dX10_offset_47 : decode cX10_offset 47 = .ok (.iload 4, 2) := by decide +kernel
theorem dX10_offset_49 : decode cX10_offset 49 = .ok (.ireturn, 1) := by decide +kernel
theorem dX10_frost_0 : decode cX10_frost 0 = .ok (.aload_n 0, 1) := by decide +kernel
theorem dX10_frost_1 : decode cX10_frost 1 = .ok (.getfield 65, 3) := by decide +kernel
theorem dX10_frost_4 : decode cX10_frost 4 = .ok (.ifCond .eq 7, 3) := by decide +kernel
theorem dX10_frost_7 : decode cX10_frost 7 = .ok (.iconst 1, 1) := by decide +kernel
theorem dX10_frost_8 : decode cX10_frost 8 = .ok (.goto 4, 3) := by decide +kernel
theorem dX10_frost_11 : decode cX10_frost 11 = .ok (.iconst 0, 1) := by decide +kernel
theorem dX10_frost_12 : decode cX10_frost 12 = .ok (.istore_n 2, 1) := by decide +kernel
theorem dX10_frost_13 : decode cX10_frost 13 = .ok (.aload_n 0, 1) := by decide +kernel
theorem dX10_frost_14 : decode cX10_frost 14 = .ok (.iload_n 1, 1) := by decide +kernel
theorem dX10_frost_15 : decode cX10_frost 15 = .ok (.putfield 65, 3) := by decide +kernel
theorem dX10_frost_18 : decode cX10_frost 18 = .ok (.iload_n 2, 1) := by decide +kernel
theorem dX10_frost_19 : decode cX10_frost 19 = .ok (.ireturn, 1) := by decide +kernel
theorem dX10_joins_0 : decode cX10_joins 0 = .ok (.aload_n 0, 1) := by decide +kernel
theorem dX10_joins_1 : decode cX10_joins 1 = .ok (.iload_n 1, 1) := by decide +kernel
theorem dX10_joins_2 : decode cX10_joins 2 = .ok (.invokevirtual 109, 3) := by decide +kernel
theorem dX10_joins_5 : decode cX10_joins 5 = .ok (.ifCond .ne 6, 3) := by decide +kernel
theorem dX10_joins_8 : decode cX10_joins 8 = .ok (.bipush (-101), 2) := by decide +kernel
theorem dX10_joins_10 : decode cX10_joins 10 = .ok (.ireturn, 1) := by decide +kernel
theorem dX10_joins_11 : decode cX10_joins 11 = .ok (.iload_n 2, 1) := by decide +kernel
theorem dX10_joins_12 : decode cX10_joins 12 = .ok (.ifCond .lt 10, 3) := by decide +kernel
theorem dX10_joins_15 : decode cX10_joins 15 = .ok (.iload_n 2, 1) := by decide +kernel
theorem dX10_joins_16 : decode cX10_joins 16 = .ok (.sipush 9999, 3) := by decide +kernel
theorem dX10_joins_19 : decode cX10_joins 19 = .ok (.if_icmp .le 6, 3) := by decide +kernel
theorem dX10_joins_22 : decode cX10_joins 22 = .ok (.bipush (-102), 2) := by decide +kernel
theorem dX10_joins_24 : decode cX10_joins 24 = .ok (.ireturn, 1) := by decide +kernel
theorem dX10_joins_25 : decode cX10_joins 25 = .ok (.aload_n 0, 1) := by decide +kernel
theorem dX10_joins_26 : decode cX10_joins 26 = .ok (.getfield 26, 3) := by decide +kernel
theorem dX10_joins_29 : decode cX10_joins 29 = .ok (.iload_n 1, 1) := by decide +kernel
theorem dX10_joins_30 : decode cX10_joins 30 = .ok (.invokevirtual 112, 3) := by decide +kernel
theorem dX10_joins_33 : decode cX10_joins 33 = .ok (.checkcast 116, 3) := by decide +kernel
theorem dX10_joins_36 : decode cX10_joins 36 = .ok (.astore_n 3, 1) := by decide +kernel
theorem dX10_joins_37 : decode cX10_joins 37 = .ok (.aload_n 3, 1) := by decide +kernel
theorem dX10_joins_38 : decode cX10_joins 38 = .ok (.iload_n 2, 1) := by decide +kernel
theorem dX10_joins_39 : decode cX10_joins 39 = .ok (.aload_n 3, 1) := by decide +kernel
theorem dX10_joins_40 : decode cX10_joins 40 = .ok (.getfield 126, 3) := by decide +kernel
theorem dX10_joins_43 : decode cX10_joins 43 = .ok (.iadd, 1) := by decide +kernel
theorem dX10_joins_44 : decode cX10_joins 44 = .ok (.aload_n 0, 1) := by decide +kernel
theorem dX10_joins_45 : decode cX10_joins 45 = .ok (.getfield 65, 3) := by decide +kernel
theorem dX10_joins_48 : decode cX10_joins 48 = .ok (.invokevirtual 130, 3) := by decide +kernel
theorem dX10_joins_51 : decode cX10_joins 51 = .ok (.ireturn, 1) := by decide +kernel
theorem dX10_lasts_0 : decode cX10_lasts 0 = .ok (.aload_n 0, 1) := by decide +kernel
theorem dX10_lasts_1 : decode cX10_lasts 1 = .ok (.iload_n 1, 1) := by decide +kernel
theorem dX10_lasts_2 : decode cX10_lasts 2 = .ok (.invokevirtual 109, 3) := by decide +kernel
theorem dX10_lasts_5 : decode cX10_lasts 5 = .ok (.ifCond .ne 6, 3) := by decide +kernel
theorem dX10_lasts_8 : decode cX10_lasts 8 = .ok (.bipush (-101), 2) := by decide +kernel
theorem dX10_lasts_10 : decode cX10_lasts 10 = .ok (.ireturn, 1) := by decide +kernel
theorem dX10_lasts_11 : decode cX10_lasts 11 = .ok (.iload_n 2, 1) := by decide +kernel
theorem dX10_lasts_12 : decode cX10_lasts 12 = .ok (.ifCond .lt 10, 3) := by decide +kernel
theorem dX10_lasts_15 : decode cX10_lasts 15 = .ok (.iload_n 2, 1) := by decide +kernel
theorem dX10_lasts_16 : decode cX10_lasts 16 = .ok (.sipush 9999, 3) := by decide +kernel
theorem dX10_lasts_19 : decode cX10_lasts 19 = .ok (.if_icmp .le 6, 3) := by decide +kernel
theorem dX10_lasts_22 : decode cX10_lasts 22 = .ok (.bipush (-102), 2) := by decide +kernel
theorem dX10_lasts_24 : decode cX10_lasts 24 = .ok (.ireturn, 1) := by decide +kernel
theorem dX10_lasts_25 : decode cX10_lasts 25 = .ok (.aload_n 0, 1) := by decide +kernel
theorem dX10_lasts_26 : decode cX10_lasts 26 = .ok (.getfield 26, 3) := by decide +kernel
theorem dX10_lasts_29 : decode cX10_lasts 29 = .ok (.iload_n 1, 1) := by decide +kernel
theorem dX10_lasts_30 : decode cX10_lasts 30 = .ok (.invokevirtual 112, 3) := by decide +kernel
theorem dX10_lasts_33 : decode cX10_lasts 33 = .ok (.checkcast 116, 3) := by decide +kernel
theorem dX10_lasts_36 : decode cX10_lasts 36 = .ok (.astore_n 3, 1) := by decide +kernel
theorem dX10_lasts_37 : decode cX10_lasts 37 = .ok (.aload_n 3, 1) := by decide +kernel
theorem dX10_lasts_38 : decode cX10_lasts 38 = .ok (.iload_n 2, 1) := by decide +kernel
theorem dX10_lasts_39 : decode cX10_lasts 39 = .ok (.aload_n 3, 1) := by decide +kernel
theorem dX10_lasts_40 : decode cX10_lasts 40 = .ok (.getfield 126, 3) := by decide +kernel
theorem dX10_lasts_43 : decode cX10_lasts 43 = .ok (.iadd, 1) := by decide +kernel
theorem dX10_lasts_44 : decode cX10_lasts 44 = .ok (.aload_n 0, 1) := by decide +kernel
theorem dX10_lasts_45 : decode cX10_lasts 45 = .ok (.getfield 65, 3) := by decide +kernel
theorem dX10_lasts_48 : decode cX10_lasts 48 = .ok (.invokevirtual 134, 3) := by decide +kernel
theorem dX10_lasts_51 : decode cX10_lasts 51 = .ok (.ireturn, 1) := by decide +kernel
theorem dX10_soonest_0 : decode cX10_soonest 0 = .ok (.iload_n 1, 1) := by decide +kernel
theorem dX10_soonest_1 : decode cX10_soonest 1 = .ok (.invokestatic 137, 3) := by decide +kernel
theorem dX10_soonest_4 : decode cX10_soonest 4 = .ok (.ifCond .eq 10, 3) := by decide +kernel
theorem dX10_soonest_7 : decode cX10_soonest 7 = .ok (.iload_n 2, 1) := by decide +kernel
theorem dX10_soonest_8 : decode cX10_soonest 8 = .ok (.invokestatic 137, 3) := by decide +kernel
theorem dX10_soonest_11 : decode cX10_soonest 11 = .ok (.ifCond .ne 6, 3) := by decide +kernel
theorem dX10_soonest_14 : decode cX10_soonest 14 = .ok (.bipush (-101), 2) := by decide +kernel
theorem dX10_soonest_16 : decode cX10_soonest 16 = .ok (.ireturn, 1) := by decide +kernel
theorem dX10_soonest_17 : decode cX10_soonest 17 = .ok (.iload_n 3, 1) := by decide +kernel
theorem dX10_soonest_18 : decode cX10_soonest 18 = .ok (.invokestatic 140, 3) := by decide +kernel
theorem dX10_soonest_21 : decode cX10_soonest 21 = .ok (.ifCond .eq 13, 3) := by decide +kernel
theorem dX10_soonest_24 : decode cX10_soonest 24 = .ok (.iload 4, 2) := by decide +kernel
theorem dX10_soonest_26 : decode cX10_soonest 26 = .ok (.iload 5, 2) := by decide +kernel
theorem dX10_soonest_28 : decode cX10_soonest 28 = .ok (.invokestatic 143, 3) := by decide +kernel
theorem dX10_soonest_31 : decode cX10_soonest 31 = .ok (.ifCond .ne 6, 3) := by decide +kernel
theorem dX10_soonest_34 : decode cX10_soonest 34 = .ok (.bipush (-102), 2) := by decide +kernel
theorem dX10_soonest_36 : decode cX10_soonest 36 = .ok (.ireturn, 1) := by decide +kernel
theorem dX10_soonest_37 : decode cX10_soonest 37 = .ok (.aload_n 0, 1) := by decide +kernel
theorem dX10_soonest_38 : decode cX10_soonest 38 = .ok (.iload_n 3, 1) := by decide +kernel
theorem dX10_soonest_39 : decode cX10_soonest 39 = .ok (.sipush 400, 3) := by decide +kernel
theorem dX10_soonest_42 : decode cX10_soonest 42 = .ok (.iload 4, 2) := by decide +kernel
theorem dX10_soonest_44 : decode cX10_soonest 44 = .ok (.iload 5, 2) := by decide +kernel
theorem dX10_soonest_46 : decode cX10_soonest 46 = .ok (.invokevirtual 147, 3) := by decide +kernel
theorem dX10_soonest_49 : decode cX10_soonest 49 = .ok (.aload_n 0, 1) := by decide +kernel
theorem dX10_soonest_50 : decode cX10_soonest 50 = .ok (.getfield 47, 3) := by decide +kernel
theorem dX10_soonest_53 : decode cX10_soonest 53 = .ok (.iload_n 1, 1) := by decide +kernel
theorem dX10_soonest_54 : decode cX10_soonest 54 = .ok (.iconst 0, 1) := by decide +kernel
theorem dX10_soonest_55 : decode cX10_soonest 55 = .ok (.iconst 1, 1) := by decide +kernel
theorem dX10_soonest_56 : decode cX10_soonest 56 = .ok (.iload_n 2, 1) := by decide +kernel
theorem dX10_soonest_57 : decode cX10_soonest 57 = .ok (.ishl, 1) := by decide +kernel
theorem dX10_soonest_58 : decode cX10_soonest 58 = .ok (.aload_n 0, 1) := by decide +kernel
theorem dX10_soonest_59 : decode cX10_soonest 59 = .ok (.getfield 58, 3) := by decide +kernel
theorem dX10_soonest_62 : decode cX10_soonest 62 = .ok (.invokevirtual 151, 3) := by decide +kernel
theorem dX10_soonest_65 : decode cX10_soonest 65 = .ok (.aload_n 0, 1) := by decide +kernel
theorem dX10_soonest_66 : decode cX10_soonest 66 = .ok (.getfield 58, 3) := by decide +kernel
theorem dX10_soonest_69 : decode cX10_soonest 69 = .ok (.iload_n 2, 1) := by decide +kernel
theorem dX10_soonest_70 : decode cX10_soonest 70 = .ok (.iaload, 1) := by decide +kernel
theorem dX10_soonest_71 : decode cX10_soonest 71 = .ok (.ldc 155, 2) := by decide +kernel
theorem dX10_soonest_73 : decode cX10_soonest 73 = .ok (.if_icmp .ne 7, 3) := by decide +kernel
theorem dX10_soonest_76 : decode cX10_soonest 76 = .ok (.iconst (-1), 1) := by decide +kernel
theorem dX10_soonest_77 : decode cX10_soonest 77 = .ok (.goto 11, 3) := by decide +kernel
theorem dX10_soonest_80 : decode cX10_soonest 80 = .ok (.iload_n 3, 1) := by decide +kernel
theorem dX10_soonest_81 : decode cX10_soonest 81 = .ok (.aload_n 0, 1) := by decide +kernel
theorem dX10_soonest_82 : decode cX10_soonest 82 = .ok (.getfield 58, 3) := by decide +kernel
theorem dX10_soonest_85 : decode cX10_soonest 85 = .ok (.iload_n 2, 1) := by decide +kernel
theorem dX10_soonest_86 : decode cX10_soonest 86 = .ok (.iaload, 1) := by decide +kernel
theorem dX10_soonest_87 : decode cX10_soonest 87 = .ok (.iadd, 1) := by decide +kernel
theorem dX10_soonest_88 : decode cX10_soonest 88 = .ok (.ireturn, 1) := by decide +kernel
theorem dX10_last_0 : decode cX10_last 0 = .ok (.iload_n 1, 1) := by decide +kernel
theorem dX10_last_1 : decode cX10_last 1 = .ok (.invokestatic 137, 3) := by decide +kernel
theorem dX10_last_4 : decode cX10_last 4 = .ok (.ifCond .eq 10, 3) := by decide +kernel
theorem dX10_last_7 : decode cX10_last 7 = .ok (.iload_n 2, 1) := by decide +kernel
theorem dX10_last_8 : decode cX10_last 8 = .ok (.invokestatic 137, 3) := by decide +kernel
theorem dX10_last_11 : decode cX10_last 11 = .ok (.ifCond .ne 6, 3) := by decide +kernel
theorem dX10_last_14 : decode cX10_last 14 = .ok (.bipush (-101), 2) := by decide +kernel
theorem dX10_last_16 : decode cX10_last 16 = .ok (.ireturn, 1) := by decide +kernel
theorem dX10_last_17 : decode cX10_last 17 = .ok (.iload_n 3, 1) := by decide +kernel
theorem dX10_last_18 : decode cX10_last 18 = .ok (.invokestatic 140, 3) := by decide +kernel
theorem dX10_last_21 : decode cX10_last 21 = .ok (.ifCond .eq 17, 3) := by decide +kernel
theorem dX10_last_24 : decode cX10_last 24 = .ok (.iload 4, 2) := by decide +kernel
theorem dX10_last_26 : decode cX10_last 26 = .ok (.invokestatic 140, 3) := by decide +kernel
theorem dX10_last_29 : decode cX10_last 29 = .ok (.ifCond .eq 9, 3) := by decide +kernel
theorem dX10_last_32 : decode cX10_last 32 = .ok (.iload 4, 2) := by decide +kernel
theorem dX10_last_34 : decode cX10_last 34 = .ok (.iload_n 3, 1) := by decide +kernel
theorem dX10_last_35 : decode cX10_last 35 = .ok (.if_icmp .ge 6, 3) := by decide +kernel
theorem dX10_last_38 : decode cX10_last 38 = .ok (.bipush (-102), 2) := by decide +kernel
theorem dX10_last_40 : decode cX10_last 40 = .ok (.ireturn, 1) := by decide +kernel
theorem dX10_last_41 : decode cX10_last 41 = .ok (.iload 5, 2) := by decide +kernel
theorem dX10_last_43 : decode cX10_last 43 = .ok (.iload 6, 2) := by decide +kernel
theorem dX10_last_45 : decode cX10_last 45 = .ok (.invokestatic 143, 3) := by decide +kernel
theorem dX10_last_48 : decode cX10_last 48 = .ok (.ifCond .ne 6, 3) := by decide +kernel
theorem dX10_last_51 : decode cX10_last 51 = .ok (.bipush (-102), 2) := by decide +kernel
theorem dX10_last_53 : decode cX10_last 53 = .ok (.ireturn, 1) := by decide +kernel
theorem dX10_last_54 : decode cX10_last 54 = .ok (.aload_n 0, 1) := by decide +kernel
theorem dX10_last_55 : decode cX10_last 55 = .ok (.iload_n 3, 1) := by decide +kernel
theorem dX10_last_56 : decode cX10_last 56 = .ok (.iload 4, 2) := by decide +kernel
theorem dX10_last_58 : decode cX10_last 58 = .ok (.iload_n 3, 1) := by decide +kernel
theorem dX10_last_59 : decode cX10_last 59 = .ok (.isub, 1) := by decide +kernel
theorem dX10_last_60 : decode cX10_last 60 = .ok (.iload 5, 2) := by decide +kernel
theorem dX10_last_62 : decode cX10_last 62 = .ok (.iload 6, 2) := by decide +kernel
theorem dX10_last_64 : decode cX10_last 64 = .ok (.invokevirtual 147, 3) := by decide +kernel
theorem dX10_last_67 : decode cX10_last 67 = .ok (.aload_n 0, 1) := by decide +kernel
theorem dX10_last_68 : decode cX10_last 68 = .ok (.getfield 47, 3) := by decide +kernel
theorem dX10_last_71 : decode cX10_last 71 = .ok (.iload_n 1, 1) := by decide +kernel
theorem dX10_last_72 : decode cX10_last 72 = .ok (.iload_n 2, 1) := by decide +kernel
theorem dX10_last_73 : decode cX10_last 73 = .ok (.invokevirtual 156, 3) := by decide +kernel
theorem dX10_last_76 : decode cX10_last 76 = .ok (.istore 7, 2) := by decide +kernel
theorem dX10_last_78 : decode cX10_last 78 = .ok (.iload 7, 2) := by decide +kernel
theorem dX10_last_80 : decode cX10_last 80 = .ok (.iconst (-1), 1) := by decide +kernel
theorem dX10_last_81 : decode cX10_last 81 = .ok (.if_icmp .ne 7, 3) := by decide +kernel
theorem dX10_last_84 : decode cX10_last 84 = .ok (.iconst (-1), 1) := by decide +kernel
theorem dX10_last_85 : decode cX10_last 85 = .ok (.goto 7, 3) := by decide +kernel
theorem dX10_last_88 : decode cX10_last 88 = .ok (.iload_n 3, 1) := by decide +kernel
theorem dX10_last_89 : decode cX10_last 89 = .ok (.iload 7, 2) := by decide +kernel
theorem dX10_last_91 : decode cX10_last 91 = .ok (.iadd, 1) := by decide +kernel
theorem dX10_last_92 : decode cX10_last 92 = .ok (.ireturn, 1) := by decide +kernel
theorem dX10_again_0 : decode cX10_again 0 = .ok (.lconst 1, 1) := by decide +kernel
theorem dX10_again_1 : decode cX10_again 1 = .ok (.lstore_n 1, 1) := by decide +kernel
theorem dX10_again_2 : decode cX10_again 2 = .ok (.iconst 0, 1) := by decide +kernel
theorem dX10_again_3 : decode cX10_again 3 = .ok (.istore_n 3, 1) := by decide +kernel
theorem dX10_again_4 : decode cX10_again 4 = .ok (.iload_n 3, 1) := by decide +kernel
theorem dX10_again_5 : decode cX10_again 5 = .ok (.aload_n 0, 1) := by decide +kernel
theorem dX10_again_6 : decode cX10_again 6 = .ok (.getfield 26, 3) := by decide +kernel
theorem dX10_again_9 : decode cX10_again 9 = .ok (.invokevirtual 100, 3) := by decide +kernel
theorem dX10_again_12 : decode cX10_again 12 = .ok (.if_icmp .ge 53, 3) := by decide +kernel
theorem dX10_again_15 : decode cX10_again 15 = .ok (.aload_n 0, 1) := by decide +kernel
theorem dX10_again_16 : decode cX10_again 16 = .ok (.getfield 26, 3) := by decide +kernel
theorem dX10_again_19 : decode cX10_again 19 = .ok (.iload_n 3, 1) := by decide +kernel
theorem dX10_again_20 : decode cX10_again 20 = .ok (.invokevirtual 112, 3) := by decide +kernel
theorem dX10_again_23 : decode cX10_again 23 = .ok (.checkcast 116, 3) := by decide +kernel
theorem dX10_again_26 : decode cX10_again 26 = .ok (.aload_n 0, 1) := by decide +kernel
theorem dX10_again_27 : decode cX10_again 27 = .ok (.getfield 65, 3) := by decide +kernel
theorem dX10_again_30 : decode cX10_again 30 = .ok (.invokevirtual 160, 3) := by decide +kernel
theorem dX10_again_33 : decode cX10_again 33 = .ok (.i2l, 1) := by decide +kernel
theorem dX10_again_34 : decode cX10_again 34 = .ok (.lstore 4, 2) := by decide +kernel
theorem dX10_again_36 : decode cX10_again 36 = .ok (.lload_n 1, 1) := by decide +kernel
theorem dX10_again_37 : decode cX10_again 37 = .ok (.lload 4, 2) := by decide +kernel
theorem dX10_again_39 : decode cX10_again 39 = .ok (.invokestatic 164, 3) := by decide +kernel
theorem dX10_again_42 : decode cX10_again 42 = .ok (.lstore 6, 2) := by decide +kernel
theorem dX10_again_44 : decode cX10_again 44 = .ok (.lload 6, 2) := by decide +kernel
theorem dX10_again_46 : decode cX10_again 46 = .ok (.lconst 0, 1) := by decide +kernel
theorem dX10_again_47 : decode cX10_again 47 = .ok (.lcmp, 1) := by decide +kernel
theorem dX10_again_48 : decode cX10_again 48 = .ok (.ifCond .le 11, 3) := by decide +kernel
theorem dX10_again_51 : decode cX10_again 51 = .ok (.lload_n 1, 1) := by decide +kernel
theorem dX10_again_52 : decode cX10_again 52 = .ok (.lload 6, 2) := by decide +kernel
theorem dX10_again_54 : decode cX10_again 54 = .ok (.ldiv, 1) := by decide +kernel
theorem dX10_again_55 : decode cX10_again 55 = .ok (.lload 4, 2) := by decide +kernel
theorem dX10_again_57 : decode cX10_again 57 = .ok (.lmul, 1) := by decide +kernel
theorem dX10_again_58 : decode cX10_again 58 = .ok (.lstore_n 1, 1) := by decide +kernel
theorem dX10_again_59 : decode cX10_again 59 = .ok (.iinc 3 1, 3) := by decide +kernel
theorem dX10_again_62 : decode cX10_again 62 = .ok (.goto (-58), 3) := by decide +kernel
theorem dX10_again_65 : decode cX10_again 65 = .ok (.lload_n 1, 1) := by decide +kernel
theorem dX10_again_66 : decode cX10_again 66 = .ok (.lreturn, 1) := by decide +kernel
theorem dX10_cut_0 : decode cX10_cut 0 = .ok (.iload_n 1, 1) := by decide +kernel
theorem dX10_cut_1 : decode cX10_cut 1 = .ok (.invokestatic 137, 3) := by decide +kernel
theorem dX10_cut_4 : decode cX10_cut 4 = .ok (.ifCond .ne 6, 3) := by decide +kernel
theorem dX10_cut_7 : decode cX10_cut 7 = .ok (.bipush (-101), 2) := by decide +kernel
theorem dX10_cut_9 : decode cX10_cut 9 = .ok (.ireturn, 1) := by decide +kernel
theorem dX10_cut_10 : decode cX10_cut 10 = .ok (.iload_n 2, 1) := by decide +kernel
theorem dX10_cut_11 : decode cX10_cut 11 = .ok (.invokestatic 140, 3) := by decide +kernel
theorem dX10_cut_14 : decode cX10_cut 14 = .ok (.ifCond .eq 15, 3) := by decide +kernel
theorem dX10_cut_17 : decode cX10_cut 17 = .ok (.iload_n 3, 1) := by decide +kernel
theorem dX10_cut_18 : decode cX10_cut 18 = .ok (.iconst 1, 1) := by decide +kernel
theorem dX10_cut_19 : decode cX10_cut 19 = .ok (.if_icmp .lt 10, 3) := by decide +kernel
theorem dX10_cut_22 : decode cX10_cut 22 = .ok (.iload_n 3, 1) := by decide +kernel
theorem dX10_cut_23 : decode cX10_cut 23 = .ok (.sipush 400, 3) := by decide +kernel
theorem dX10_cut_26 : decode cX10_cut 26 = .ok (.if_icmp .le 6, 3) := by decide +kernel
theorem dX10_cut_29 : decode cX10_cut 29 = .ok (.bipush (-102), 2) := by decide +kernel
theorem dX10_cut_31 : decode cX10_cut 31 = .ok (.ireturn, 1) := by decide +kernel
theorem dX10_cut_32 : decode cX10_cut 32 = .ok (.aload_n 0, 1) := by decide +kernel
theorem dX10_cut_33 : decode cX10_cut 33 = .ok (.iload_n 1, 1) := by decide +kernel
theorem dX10_cut_34 : decode cX10_cut 34 = .ok (.iload_n 2, 1) := by decide +kernel
theorem dX10_cut_35 : decode cX10_cut 35 = .ok (.iload_n 3, 1) := by decide +kernel
theorem dX10_cut_36 : decode cX10_cut 36 = .ok (.invokevirtual 168, 3) := by decide +kernel
theorem dX10_cut_39 : decode cX10_cut 39 = .ok (.ireturn, 1) := by decide +kernel
theorem dX10_worst_0 : decode cX10_worst 0 = .ok (.iload_n 1, 1) := by decide +kernel
theorem dX10_worst_1 : decode cX10_worst 1 = .ok (.invokestatic 137, 3) := by decide +kernel
theorem dX10_worst_4 : decode cX10_worst 4 = .ok (.ifCond .eq 10, 3) := by decide +kernel
theorem dX10_worst_7 : decode cX10_worst 7 = .ok (.iload_n 2, 1) := by decide +kernel
theorem dX10_worst_8 : decode cX10_worst 8 = .ok (.invokestatic 137, 3) := by decide +kernel
theorem dX10_worst_11 : decode cX10_worst 11 = .ok (.ifCond .ne 6, 3) := by decide +kernel
theorem dX10_worst_14 : decode cX10_worst 14 = .ok (.bipush (-101), 2) := by decide +kernel
theorem dX10_worst_16 : decode cX10_worst 16 = .ok (.ireturn, 1) := by decide +kernel
theorem dX10_worst_17 : decode cX10_worst 17 = .ok (.iload_n 3, 1) := by decide +kernel
theorem dX10_worst_18 : decode cX10_worst 18 = .ok (.invokestatic 172, 3) := by decide +kernel
theorem dX10_worst_21 : decode cX10_worst 21 = .ok (.ifCond .eq 13, 3) := by decide +kernel
theorem dX10_worst_24 : decode cX10_worst 24 = .ok (.iload 4, 2) := by decide +kernel
theorem dX10_worst_26 : decode cX10_worst 26 = .ok (.iload 5, 2) := by decide +kernel
theorem dX10_worst_28 : decode cX10_worst 28 = .ok (.invokestatic 143, 3) := by decide +kernel
theorem dX10_worst_31 : decode cX10_worst 31 = .ok (.ifCond .ne 6, 3) := by decide +kernel
theorem dX10_worst_34 : decode cX10_worst 34 = .ok (.bipush (-102), 2) := by decide +kernel
theorem dX10_worst_36 : decode cX10_worst 36 = .ok (.ireturn, 1) := by decide +kernel
theorem dX10_worst_37 : decode cX10_worst 37 = .ok (.aload_n 0, 1) := by decide +kernel
theorem dX10_worst_38 : decode cX10_worst 38 = .ok (.iconst 0, 1) := by decide +kernel
theorem dX10_worst_39 : decode cX10_worst 39 = .ok (.iload_n 3, 1) := by decide +kernel
theorem dX10_worst_40 : decode cX10_worst 40 = .ok (.iconst 1, 1) := by decide +kernel
theorem dX10_worst_41 : decode cX10_worst 41 = .ok (.isub, 1) := by decide +kernel
theorem dX10_worst_42 : decode cX10_worst 42 = .ok (.sipush 400, 3) := by decide +kernel
theorem dX10_worst_45 : decode cX10_worst 45 = .ok (.iadd, 1) := by decide +kernel
theorem dX10_worst_46 : decode cX10_worst 46 = .ok (.iload 4, 2) := by decide +kernel
theorem dX10_worst_48 : decode cX10_worst 48 = .ok (.iload 5, 2) := by decide +kernel
theorem dX10_worst_50 : decode cX10_worst 50 = .ok (.invokevirtual 147, 3) := by decide +kernel
theorem dX10_worst_53 : decode cX10_worst 53 = .ok (.aload_n 0, 1) := by decide +kernel
theorem dX10_worst_54 : decode cX10_worst 54 = .ok (.getfield 47, 3) := by decide +kernel
theorem dX10_worst_57 : decode cX10_worst 57 = .ok (.iload_n 2, 1) := by decide +kernel
theorem dX10_worst_58 : decode cX10_worst 58 = .ok (.invokevirtual 175, 3) := by decide +kernel
theorem dX10_worst_61 : decode cX10_worst 61 = .ok (.aload_n 0, 1) := by decide +kernel
theorem dX10_worst_62 : decode cX10_worst 62 = .ok (.getfield 47, 3) := by decide +kernel
theorem dX10_worst_65 : decode cX10_worst 65 = .ok (.iload_n 1, 1) := by decide +kernel
theorem dX10_worst_66 : decode cX10_worst 66 = .ok (.iload_n 3, 1) := by decide +kernel
theorem dX10_worst_67 : decode cX10_worst 67 = .ok (.invokevirtual 178, 3) := by decide +kernel
theorem dX10_worst_70 : decode cX10_worst 70 = .ok (.ireturn, 1) := by decide +kernel
theorem dX10_mean_0 : decode cX10_mean 0 = .ok (.iload_n 1, 1) := by decide +kernel
theorem dX10_mean_1 : decode cX10_mean 1 = .ok (.invokestatic 137, 3) := by decide +kernel
theorem dX10_mean_4 : decode cX10_mean 4 = .ok (.ifCond .eq 10, 3) := by decide +kernel
theorem dX10_mean_7 : decode cX10_mean 7 = .ok (.iload_n 2, 1) := by decide +kernel
theorem dX10_mean_8 : decode cX10_mean 8 = .ok (.invokestatic 137, 3) := by decide +kernel
theorem dX10_mean_11 : decode cX10_mean 11 = .ok (.ifCond .ne 6, 3) := by decide +kernel
theorem dX10_mean_14 : decode cX10_mean 14 = .ok (.bipush (-101), 2) := by decide +kernel
theorem dX10_mean_16 : decode cX10_mean 16 = .ok (.ireturn, 1) := by decide +kernel
theorem dX10_mean_17 : decode cX10_mean 17 = .ok (.iload_n 3, 1) := by decide +kernel
theorem dX10_mean_18 : decode cX10_mean 18 = .ok (.invokestatic 172, 3) := by decide +kernel
theorem dX10_mean_21 : decode cX10_mean 21 = .ok (.ifCond .eq 24, 3) := by decide +kernel
theorem dX10_mean_24 : decode cX10_mean 24 = .ok (.iload 4, 2) := by decide +kernel
theorem dX10_mean_26 : decode cX10_mean 26 = .ok (.iload 5, 2) := by decide +kernel
theorem dX10_mean_28 : decode cX10_mean 28 = .ok (.invokestatic 143, 3) := by decide +kernel
theorem dX10_mean_31 : decode cX10_mean 31 = .ok (.ifCond .eq 14, 3) := by decide +kernel
theorem dX10_mean_34 : decode cX10_mean 34 = .ok (.iload 6, 2) := by decide +kernel
theorem dX10_mean_36 : decode cX10_mean 36 = .ok (.ifCond .lt 9, 3) := by decide +kernel
theorem dX10_mean_39 : decode cX10_mean 39 = .ok (.iload 6, 2) := by decide +kernel
theorem dX10_mean_41 : decode cX10_mean 41 = .ok (.iconst 1, 1) := by decide +kernel
theorem dX10_mean_42 : decode cX10_mean 42 = .ok (.if_icmp .le 6, 3) := by decide +kernel
theorem dX10_mean_45 : decode cX10_mean 45 = .ok (.bipush (-102), 2) := by decide +kernel
theorem dX10_mean_47 : decode cX10_mean 47 = .ok (.ireturn, 1) := by decide +kernel
theorem dX10_mean_48 : decode cX10_mean 48 = .ok (.aload_n 0, 1) := by decide +kernel
theorem dX10_mean_49 : decode cX10_mean 49 = .ok (.iconst 0, 1) := by decide +kernel
theorem dX10_mean_50 : decode cX10_mean 50 = .ok (.iload_n 3, 1) := by decide +kernel
theorem dX10_mean_51 : decode cX10_mean 51 = .ok (.iconst 1, 1) := by decide +kernel
theorem dX10_mean_52 : decode cX10_mean 52 = .ok (.isub, 1) := by decide +kernel
theorem dX10_mean_53 : decode cX10_mean 53 = .ok (.sipush 400, 3) := by decide +kernel
theorem dX10_mean_56 : decode cX10_mean 56 = .ok (.iadd, 1) := by decide +kernel
theorem dX10_mean_57 : decode cX10_mean 57 = .ok (.iload 4, 2) := by decide +kernel
theorem dX10_mean_59 : decode cX10_mean 59 = .ok (.iload 5, 2) := by decide +kernel
theorem dX10_mean_61 : decode cX10_mean 61 = .ok (.invokevirtual 147, 3) := by decide +kernel
theorem dX10_mean_64 : decode cX10_mean 64 = .ok (.aload_n 0, 1) := by decide +kernel
theorem dX10_mean_65 : decode cX10_mean 65 = .ok (.getfield 47, 3) := by decide +kernel
theorem dX10_mean_68 : decode cX10_mean 68 = .ok (.iload_n 2, 1) := by decide +kernel
theorem dX10_mean_69 : decode cX10_mean 69 = .ok (.invokevirtual 175, 3) := by decide +kernel
theorem dX10_mean_72 : decode cX10_mean 72 = .ok (.aload_n 0, 1) := by decide +kernel
theorem dX10_mean_73 : decode cX10_mean 73 = .ok (.getfield 47, 3) := by decide +kernel
theorem dX10_mean_76 : decode cX10_mean 76 = .ok (.iload_n 1, 1) := by decide +kernel
theorem dX10_mean_77 : decode cX10_mean 77 = .ok (.iload_n 3, 1) := by decide +kernel
theorem dX10_mean_78 : decode cX10_mean 78 = .ok (.invokevirtual 181, 3) := by decide +kernel
theorem dX10_mean_81 : decode cX10_mean 81 = .ok (.istore 7, 2) := by decide +kernel
theorem dX10_mean_83 : decode cX10_mean 83 = .ok (.iload 7, 2) := by decide +kernel
theorem dX10_mean_85 : decode cX10_mean 85 = .ok (.iconst (-1), 1) := by decide +kernel
theorem dX10_mean_86 : decode cX10_mean 86 = .ok (.if_icmp .ne 5, 3) := by decide +kernel
theorem dX10_mean_89 : decode cX10_mean 89 = .ok (.iconst (-1), 1) := by decide +kernel
theorem dX10_mean_90 : decode cX10_mean 90 = .ok (.ireturn, 1) := by decide +kernel
theorem dX10_mean_91 : decode cX10_mean 91 = .ok (.iload 7, 2) := by decide +kernel
theorem dX10_mean_93 : decode cX10_mean 93 = .ok (.i2l, 1) := by decide +kernel
theorem dX10_mean_94 : decode cX10_mean 94 = .ok (.iload_n 3, 1) := by decide +kernel
theorem dX10_mean_95 : decode cX10_mean 95 = .ok (.i2l, 1) := by decide +kernel
theorem dX10_mean_96 : decode cX10_mean 96 = .ok (.invokestatic 164, 3) := by decide +kernel
theorem dX10_mean_99 : decode cX10_mean 99 = .ok (.l2i, 1) := by decide +kernel
theorem dX10_mean_100 : decode cX10_mean 100 = .ok (.istore 8, 2) := by decide +kernel
theorem dX10_mean_102 : decode cX10_mean 102 = .ok (.iload 8, 2) := by decide +kernel
theorem dX10_mean_104 : decode cX10_mean 104 = .ok (.iconst 1, 1) := by decide +kernel
theorem dX10_mean_105 : decode cX10_mean 105 = .ok (.if_icmp .ge 5, 3) := by decide +kernel
theorem dX10_mean_108 : decode cX10_mean 108 = .ok (.iconst (-1), 1) := by decide +kernel
theorem dX10_mean_109 : decode cX10_mean 109 = .ok (.ireturn, 1) := by decide +kernel
theorem dX10_mean_110 : decode cX10_mean 110 = .ok (.iload 6, 2) := by decide +kernel
theorem dX10_mean_112 : decode cX10_mean 112 = .ok (.ifCond .ne 11, 3) := by decide +kernel
theorem dX10_mean_115 : decode cX10_mean 115 = .ok (.iload 7, 2) := by decide +kernel
theorem dX10_mean_117 : decode cX10_mean 117 = .ok (.iload 8, 2) := by decide +kernel
theorem dX10_mean_119 : decode cX10_mean 119 = .ok (.idiv, 1) := by decide +kernel
theorem dX10_mean_120 : decode cX10_mean 120 = .ok (.goto 7, 3) := by decide +kernel
theorem dX10_mean_123 : decode cX10_mean 123 = .ok (.iload_n 3, 1) := by decide +kernel
theorem dX10_mean_124 : decode cX10_mean 124 = .ok (.iload 8, 2) := by decide +kernel
theorem dX10_mean_126 : decode cX10_mean 126 = .ok (.idiv, 1) := by decide +kernel
theorem dX10_mean_127 : decode cX10_mean 127 = .ok (.ireturn, 1) := by decide +kernel
theorem dX10_set_0 : decode cX10_set 0 = .ok (.aload_n 0, 1) := by decide +kernel
theorem dX10_set_1 : decode cX10_set 1 = .ok (.iload_n 1, 1) := by decide +kernel
theorem dX10_set_2 : decode cX10_set 2 = .ok (.invokevirtual 109, 3) := by decide +kernel
theorem dX10_set_5 : decode cX10_set 5 = .ok (.ifCond .eq 17, 3) := by decide +kernel
theorem dX10_set_8 : decode cX10_set 8 = .ok (.iload_n 2, 1) := by decide +kernel
theorem dX10_set_9 : decode cX10_set 9 = .ok (.invokestatic 137, 3) := by decide +kernel
theorem dX10_set_12 : decode cX10_set 12 = .ok (.ifCond .eq 10, 3) := by decide +kernel
theorem dX10_set_15 : decode cX10_set 15 = .ok (.iload_n 3, 1) := by decide +kernel
theorem dX10_set_16 : decode cX10_set 16 = .ok (.invokestatic 137, 3) := by decide +kernel
theorem dX10_set_19 : decode cX10_set 19 = .ok (.ifCond .ne 6, 3) := by decide +kernel
theorem dX10_set_22 : decode cX10_set 22 = .ok (.bipush (-101), 2) := by decide +kernel
theorem dX10_set_24 : decode cX10_set 24 = .ok (.ireturn, 1) := by decide +kernel
theorem dX10_set_25 : decode cX10_set 25 = .ok (.aload_n 0, 1) := by decide +kernel
theorem dX10_set_26 : decode cX10_set 26 = .ok (.getfield 26, 3) := by decide +kernel
theorem dX10_set_29 : decode cX10_set 29 = .ok (.iload_n 1, 1) := by decide +kernel
theorem dX10_set_30 : decode cX10_set 30 = .ok (.invokevirtual 112, 3) := by decide +kernel
theorem dX10_set_33 : decode cX10_set 33 = .ok (.checkcast 116, 3) := by decide +kernel
theorem dX10_set_36 : decode cX10_set 36 = .ok (.astore 4, 2) := by decide +kernel
theorem dX10_set_38 : decode cX10_set 38 = .ok (.aload 4, 2) := by decide +kernel
theorem dX10_set_40 : decode cX10_set 40 = .ok (.instanceof 184, 3) := by decide +kernel
theorem dX10_set_43 : decode cX10_set 43 = .ok (.ifCond .eq 6, 3) := by decide +kernel
theorem dX10_set_46 : decode cX10_set 46 = .ok (.bipush (-103), 2) := by decide +kernel
theorem dX10_set_48 : decode cX10_set 48 = .ok (.ireturn, 1) := by decide +kernel
theorem dX10_set_49 : decode cX10_set 49 = .ok (.aload_n 0, 1) := by decide +kernel
theorem dX10_set_50 : decode cX10_set 50 = .ok (.iconst 0, 1) := by decide +kernel
theorem dX10_set_51 : decode cX10_set 51 = .ok (.sipush 459, 3) := by decide +kernel
theorem dX10_set_54 : decode cX10_set 54 = .ok (.iconst 1, 1) := by decide +kernel
theorem dX10_set_55 : decode cX10_set 55 = .ok (.iconst 1, 1) := by decide +kernel
theorem dX10_set_56 : decode cX10_set 56 = .ok (.invokevirtual 147, 3) := by decide +kernel
theorem dX10_set_59 : decode cX10_set 59 = .ok (.iconst 0, 1) := by decide +kernel
theorem dX10_set_60 : decode cX10_set 60 = .ok (.istore 5, 2) := by decide +kernel
theorem dX10_set_62 : decode cX10_set 62 = .ok (.ldc 155, 2) := by decide +kernel
theorem dX10_set_64 : decode cX10_set 64 = .ok (.istore 6, 2) := by decide +kernel
theorem dX10_set_66 : decode cX10_set 66 = .ok (.iconst 0, 1) := by decide +kernel
theorem dX10_set_67 : decode cX10_set 67 = .ok (.istore 7, 2) := by decide +kernel
theorem dX10_set_69 : decode cX10_set 69 = .ok (.iload 7, 2) := by decide +kernel
theorem dX10_set_71 : decode cX10_set 71 = .ok (.bipush 9, 2) := by decide +kernel
theorem dX10_set_73 : decode cX10_set 73 = .ok (.if_icmp .gt 71, 3) := by decide +kernel
theorem dX10_set_76 : decode cX10_set 76 = .ok (.aload_n 0, 1) := by decide +kernel
theorem dX10_set_77 : decode cX10_set 77 = .ok (.getfield 47, 3) := by decide +kernel
theorem dX10_set_80 : decode cX10_set 80 = .ok (.iload_n 1, 1) := by decide +kernel
theorem dX10_set_81 : decode cX10_set 81 = .ok (.aload 4, 2) := by decide +kernel
theorem dX10_set_83 : decode cX10_set 83 = .ok (.iload 7, 2) := by decide +kernel
theorem dX10_set_85 : decode cX10_set 85 = .ok (.aload_n 0, 1) := by decide +kernel
theorem dX10_set_86 : decode cX10_set 86 = .ok (.getfield 65, 3) := by decide +kernel
theorem dX10_set_89 : decode cX10_set 89 = .ok (.invokevirtual 186, 3) := by decide +kernel
theorem dX10_set_92 : decode cX10_set 92 = .ok (.aload_n 0, 1) := by decide +kernel
theorem dX10_set_93 : decode cX10_set 93 = .ok (.getfield 47, 3) := by decide +kernel
theorem dX10_set_96 : decode cX10_set 96 = .ok (.iload_n 3, 1) := by decide +kernel
theorem dX10_set_97 : decode cX10_set 97 = .ok (.invokevirtual 175, 3) := by decide +kernel
theorem dX10_set_100 : decode cX10_set 100 = .ok (.aload_n 0, 1) := by decide +kernel
theorem dX10_set_101 : decode cX10_set 101 = .ok (.getfield 47, 3) := by decide +kernel
theorem dX10_set_104 : decode cX10_set 104 = .ok (.iload_n 2, 1) := by decide +kernel
theorem dX10_set_105 : decode cX10_set 105 = .ok (.bipush 60, 2) := by decide +kernel
theorem dX10_set_107 : decode cX10_set 107 = .ok (.invokevirtual 178, 3) := by decide +kernel
theorem dX10_set_110 : decode cX10_set 110 = .ok (.istore 8, 2) := by decide +kernel
theorem dX10_set_112 : decode cX10_set 112 = .ok (.iload 8, 2) := by decide +kernel
theorem dX10_set_114 : decode cX10_set 114 = .ok (.iconst (-1), 1) := by decide +kernel
theorem dX10_set_115 : decode cX10_set 115 = .ok (.if_icmp .ne 8, 3) := by decide +kernel
theorem dX10_set_118 : decode cX10_set 118 = .ok (.sipush 1000, 3) := by decide +kernel
theorem dX10_set_121 : decode cX10_set 121 = .ok (.istore 8, 2) := by decide +kernel
theorem dX10_set_123 : decode cX10_set 123 = .ok (.iload 8, 2) := by decide +kernel
theorem dX10_set_125 : decode cX10_set 125 = .ok (.iload 6, 2) := by decide +kernel
theorem dX10_set_127 : decode cX10_set 127 = .ok (.if_icmp .ge 11, 3) := by decide +kernel
theorem dX10_set_130 : decode cX10_set 130 = .ok (.iload 8, 2) := by decide +kernel
theorem dX10_set_132 : decode cX10_set 132 = .ok (.istore 6, 2) := by decide +kernel
theorem dX10_set_134 : decode cX10_set 134 = .ok (.iload 7, 2) := by decide +kernel
theorem dX10_set_136 : decode cX10_set 136 = .ok (.istore 5, 2) := by decide +kernel
theorem dX10_set_138 : decode cX10_set 138 = .ok (.iinc 7 1, 3) := by decide +kernel
theorem dX10_set_141 : decode cX10_set 141 = .ok (.goto (-72), 3) := by decide +kernel
theorem dX10_set_144 : decode cX10_set 144 = .ok (.iload 5, 2) := by decide +kernel
theorem dX10_set_146 : decode cX10_set 146 = .ok (.ireturn, 1) := by decide +kernel
theorem dX10_crowd_0 : decode cX10_crowd 0 = .ok (.iload_n 1, 1) := by decide +kernel
theorem dX10_crowd_1 : decode cX10_crowd 1 = .ok (.invokestatic 137, 3) := by decide +kernel
theorem dX10_crowd_4 : decode cX10_crowd 4 = .ok (.ifCond .eq 10, 3) := by decide +kernel
theorem dX10_crowd_7 : decode cX10_crowd 7 = .ok (.iload_n 2, 1) := by decide +kernel
theorem dX10_crowd_8 : decode cX10_crowd 8 = .ok (.invokestatic 137, 3) := by decide +kernel
theorem dX10_crowd_11 : decode cX10_crowd 11 = .ok (.ifCond .ne 6, 3) := by decide +kernel
theorem dX10_crowd_14 : decode cX10_crowd 14 = .ok (.bipush (-101), 2) := by decide +kernel
theorem dX10_crowd_16 : decode cX10_crowd 16 = .ok (.ireturn, 1) := by decide +kernel
theorem dX10_crowd_17 : decode cX10_crowd 17 = .ok (.iload_n 3, 1) := by decide +kernel
theorem dX10_crowd_18 : decode cX10_crowd 18 = .ok (.invokestatic 140, 3) := by decide +kernel
theorem dX10_crowd_21 : decode cX10_crowd 21 = .ok (.ifCond .eq 18, 3) := by decide +kernel
theorem dX10_crowd_24 : decode cX10_crowd 24 = .ok (.iload 4, 2) := by decide +kernel
theorem dX10_crowd_26 : decode cX10_crowd 26 = .ok (.iload_n 3, 1) := by decide +kernel
theorem dX10_crowd_27 : decode cX10_crowd 27 = .ok (.if_icmp .lt 12, 3) := by decide +kernel
theorem dX10_crowd_30 : decode cX10_crowd 30 = .ok (.iload 4, 2) := by decide +kernel
theorem dX10_crowd_32 : decode cX10_crowd 32 = .ok (.iload_n 3, 1) := by decide +kernel
theorem dX10_crowd_33 : decode cX10_crowd 33 = .ok (.bipush 60, 2) := by decide +kernel
theorem dX10_crowd_35 : decode cX10_crowd 35 = .ok (.iadd, 1) := by decide +kernel
theorem dX10_crowd_36 : decode cX10_crowd 36 = .ok (.if_icmp .le 6, 3) := by decide +kernel
theorem dX10_crowd_39 : decode cX10_crowd 39 = .ok (.bipush (-102), 2) := by decide +kernel
theorem dX10_crowd_41 : decode cX10_crowd 41 = .ok (.ireturn, 1) := by decide +kernel
theorem dX10_crowd_42 : decode cX10_crowd 42 = .ok (.iload 5, 2) := by decide +kernel
theorem dX10_crowd_44 : decode cX10_crowd 44 = .ok (.iload 6, 2) := by decide +kernel
theorem dX10_crowd_46 : decode cX10_crowd 46 = .ok (.invokestatic 143, 3) := by decide +kernel
theorem dX10_crowd_49 : decode cX10_crowd 49 = .ok (.ifCond .ne 6, 3) := by decide +kernel
theorem dX10_crowd_52 : decode cX10_crowd 52 = .ok (.bipush (-102), 2) := by decide +kernel
theorem dX10_crowd_54 : decode cX10_crowd 54 = .ok (.ireturn, 1) := by decide +kernel
theorem dX10_crowd_55 : decode cX10_crowd 55 = .ok (.iload_n 1, 1) := by decide +kernel
theorem dX10_crowd_56 : decode cX10_crowd 56 = .ok (.iload_n 2, 1) := by decide +kernel
theorem dX10_crowd_57 : decode cX10_crowd 57 = .ok (.if_icmp .ne 6, 3) := by decide +kernel
theorem dX10_crowd_60 : decode cX10_crowd 60 = .ok (.bipush (-103), 2) := by decide +kernel
theorem dX10_crowd_62 : decode cX10_crowd 62 = .ok (.ireturn, 1) := by decide +kernel
theorem dX10_crowd_63 : decode cX10_crowd 63 = .ok (.aload_n 0, 1) := by decide +kernel
theorem dX10_crowd_64 : decode cX10_crowd 64 = .ok (.iload_n 3, 1) := by decide +kernel
theorem dX10_crowd_65 : decode cX10_crowd 65 = .ok (.iload 4, 2) := by decide +kernel
theorem dX10_crowd_67 : decode cX10_crowd 67 = .ok (.iload_n 3, 1) := by decide +kernel
theorem dX10_crowd_68 : decode cX10_crowd 68 = .ok (.isub, 1) := by decide +kernel
theorem dX10_crowd_69 : decode cX10_crowd 69 = .ok (.iload 5, 2) := by decide +kernel
theorem dX10_crowd_71 : decode cX10_crowd 71 = .ok (.iload 6, 2) := by decide +kernel
theorem dX10_crowd_73 : decode cX10_crowd 73 = .ok (.invokevirtual 147, 3) := by decide +kernel
theorem dX10_crowd_76 : decode cX10_crowd 76 = .ok (.aload_n 0, 1) := by decide +kernel
theorem dX10_crowd_77 : decode cX10_crowd 77 = .ok (.getfield 54, 3) := by decide +kernel
theorem dX10_crowd_80 : decode cX10_crowd 80 = .ok (.aload_n 0, 1) := by decide +kernel
theorem dX10_crowd_81 : decode cX10_crowd 81 = .ok (.getfield 47, 3) := by decide +kernel
theorem dX10_crowd_84 : decode cX10_crowd 84 = .ok (.iload_n 1, 1) := by decide +kernel
theorem dX10_crowd_85 : decode cX10_crowd 85 = .ok (.iload_n 2, 1) := by decide +kernel
theorem dX10_crowd_86 : decode cX10_crowd 86 = .ok (.invokevirtual 190, 3) := by decide +kernel
theorem dX10_crowd_89 : decode cX10_crowd 89 = .ok (.ireturn, 1) := by decide +kernel
theorem dX10_stranded_0 : decode cX10_stranded 0 = .ok (.aload_n 0, 1) := by decide +kernel
theorem dX10_stranded_1 : decode cX10_stranded 1 = .ok (.iload_n 1, 1) := by decide +kernel
theorem dX10_stranded_2 : decode cX10_stranded 2 = .ok (.invokevirtual 109, 3) := by decide +kernel
theorem dX10_stranded_5 : decode cX10_stranded 5 = .ok (.ifCond .eq 10, 3) := by decide +kernel
theorem dX10_stranded_8 : decode cX10_stranded 8 = .ok (.iload_n 3, 1) := by decide +kernel
theorem dX10_stranded_9 : decode cX10_stranded 9 = .ok (.invokestatic 137, 3) := by decide +kernel
theorem dX10_stranded_12 : decode cX10_stranded 12 = .ok (.ifCond .ne 6, 3) := by decide +kernel
theorem dX10_stranded_15 : decode cX10_stranded 15 = .ok (.bipush (-101), 2) := by decide +kernel
theorem dX10_stranded_17 : decode cX10_stranded 17 = .ok (.ireturn, 1) := by decide +kernel
theorem dX10_stranded_18 : decode cX10_stranded 18 = .ok (.aload_n 0, 1) := by decide +kernel
theorem dX10_stranded_19 : decode cX10_stranded 19 = .ok (.getfield 26, 3) := by decide +kernel
theorem dX10_stranded_22 : decode cX10_stranded 22 = .ok (.iload_n 1, 1) := by decide +kernel
theorem dX10_stranded_23 : decode cX10_stranded 23 = .ok (.invokevirtual 112, 3) := by decide +kernel
theorem dX10_stranded_26 : decode cX10_stranded 26 = .ok (.checkcast 116, 3) := by decide +kernel
theorem dX10_stranded_29 : decode cX10_stranded 29 = .ok (.astore 4, 2) := by decide +kernel
theorem dX10_stranded_31 : decode cX10_stranded 31 = .ok (.iload_n 2, 1) := by decide +kernel
theorem dX10_stranded_32 : decode cX10_stranded 32 = .ok (.ifCond .lt 12, 3) := by decide +kernel
theorem dX10_stranded_35 : decode cX10_stranded 35 = .ok (.iload_n 2, 1) := by decide +kernel
theorem dX10_stranded_36 : decode cX10_stranded 36 = .ok (.aload 4, 2) := by decide +kernel
theorem dX10_stranded_38 : decode cX10_stranded 38 = .ok (.invokevirtual 194, 3) := by decide +kernel
theorem dX10_stranded_41 : decode cX10_stranded 41 = .ok (.if_icmp .lt 6, 3) := by decide +kernel
theorem dX10_stranded_44 : decode cX10_stranded 44 = .ok (.bipush (-102), 2) := by decide +kernel
theorem dX10_stranded_46 : decode cX10_stranded 46 = .ok (.ireturn, 1) := by decide +kernel
theorem dX10_stranded_47 : decode cX10_stranded 47 = .ok (.aload_n 0, 1) := by decide +kernel
theorem dX10_stranded_48 : decode cX10_stranded 48 = .ok (.iconst 0, 1) := by decide +kernel
theorem dX10_stranded_49 : decode cX10_stranded 49 = .ok (.sipush 400, 3) := by decide +kernel
theorem dX10_stranded_52 : decode cX10_stranded 52 = .ok (.iconst 1, 1) := by decide +kernel
theorem dX10_stranded_53 : decode cX10_stranded 53 = .ok (.iconst 1, 1) := by decide +kernel
theorem dX10_stranded_54 : decode cX10_stranded 54 = .ok (.invokevirtual 147, 3) := by decide +kernel
theorem dX10_stranded_57 : decode cX10_stranded 57 = .ok (.aload_n 0, 1) := by decide +kernel
theorem dX10_stranded_58 : decode cX10_stranded 58 = .ok (.getfield 47, 3) := by decide +kernel
theorem dX10_stranded_61 : decode cX10_stranded 61 = .ok (.iload_n 1, 1) := by decide +kernel
theorem dX10_stranded_62 : decode cX10_stranded 62 = .ok (.aload 4, 2) := by decide +kernel
theorem dX10_stranded_64 : decode cX10_stranded 64 = .ok (.getfield 197, 3) := by decide +kernel
theorem dX10_stranded_67 : decode cX10_stranded 67 = .ok (.aload 4, 2) := by decide +kernel
theorem dX10_stranded_69 : decode cX10_stranded 69 = .ok (.iload_n 2, 1) := by decide +kernel
theorem dX10_stranded_70 : decode cX10_stranded 70 = .ok (.invokevirtual 200, 3) := by decide +kernel
theorem dX10_stranded_73 : decode cX10_stranded 73 = .ok (.invokevirtual 204, 3) := by decide +kernel
theorem dX10_stranded_76 : decode cX10_stranded 76 = .ok (.aload_n 0, 1) := by decide +kernel
theorem dX10_stranded_77 : decode cX10_stranded 77 = .ok (.getfield 47, 3) := by decide +kernel
theorem dX10_stranded_80 : decode cX10_stranded 80 = .ok (.iload_n 3, 1) := by decide +kernel
theorem dX10_stranded_81 : decode cX10_stranded 81 = .ok (.iconst 0, 1) := by decide +kernel
theorem dX10_stranded_82 : decode cX10_stranded 82 = .ok (.sipush 255, 3) := by decide +kernel
theorem dX10_stranded_85 : decode cX10_stranded 85 = .ok (.aload_n 0, 1) := by decide +kernel
theorem dX10_stranded_86 : decode cX10_stranded 86 = .ok (.getfield 58, 3) := by decide +kernel
theorem dX10_stranded_89 : decode cX10_stranded 89 = .ok (.invokevirtual 151, 3) := by decide +kernel
theorem dX10_stranded_92 : decode cX10_stranded 92 = .ok (.iconst 0, 1) := by decide +kernel
theorem dX10_stranded_93 : decode cX10_stranded 93 = .ok (.istore 5, 2) := by decide +kernel
theorem dX10_stranded_95 : decode cX10_stranded 95 = .ok (.iconst 0, 1) := by decide +kernel
theorem dX10_stranded_96 : decode cX10_stranded 96 = .ok (.istore 6, 2) := by decide +kernel
theorem dX10_stranded_98 : decode cX10_stranded 98 = .ok (.iload 6, 2) := by decide +kernel
theorem dX10_stranded_100 : decode cX10_stranded 100 = .ok (.bipush 8, 2) := by decide +kernel
theorem dX10_stranded_102 : decode cX10_stranded 102 = .ok (.if_icmp .ge 30, 3) := by decide +kernel
theorem dX10_stranded_105 : decode cX10_stranded 105 = .ok (.aload_n 0, 1) := by decide +kernel
theorem dX10_stranded_106 : decode cX10_stranded 106 = .ok (.getfield 58, 3) := by decide +kernel
theorem dX10_stranded_109 : decode cX10_stranded 109 = .ok (.iload 6, 2) := by decide +kernel
theorem dX10_stranded_111 : decode cX10_stranded 111 = .ok (.iaload, 1) := by decide +kernel
theorem dX10_stranded_112 : decode cX10_stranded 112 = .ok (.ldc 155, 2) := by decide +kernel
theorem dX10_stranded_114 : decode cX10_stranded 114 = .ok (.if_icmp .ne 12, 3) := by decide +kernel
theorem dX10_stranded_117 : decode cX10_stranded 117 = .ok (.iload 5, 2) := by decide +kernel
theorem dX10_stranded_119 : decode cX10_stranded 119 = .ok (.iconst 1, 1) := by decide +kernel
theorem dX10_stranded_120 : decode cX10_stranded 120 = .ok (.iload 6, 2) := by decide +kernel
theorem dX10_stranded_122 : decode cX10_stranded 122 = .ok (.ishl, 1) := by decide +kernel
theorem dX10_stranded_123 : decode cX10_stranded 123 = .ok (.ior, 1) := by decide +kernel
theorem dX10_stranded_124 : decode cX10_stranded 124 = .ok (.istore 5, 2) := by decide +kernel
theorem dX10_stranded_126 : decode cX10_stranded 126 = .ok (.iinc 6 1, 3) := by decide +kernel
theorem dX10_stranded_129 : decode cX10_stranded 129 = .ok (.goto (-31), 3) := by decide +kernel
theorem dX10_stranded_132 : decode cX10_stranded 132 = .ok (.iload 5, 2) := by decide +kernel
theorem dX10_stranded_134 : decode cX10_stranded 134 = .ok (.ireturn, 1) := by decide +kernel
theorem dX10_meeting_0 : decode cX10_meeting 0 = .ok (.iload_n 1, 1) := by decide +kernel
theorem dX10_meeting_1 : decode cX10_meeting 1 = .ok (.invokestatic 137, 3) := by decide +kernel
theorem dX10_meeting_4 : decode cX10_meeting 4 = .ok (.ifCond .eq 10, 3) := by decide +kernel
theorem dX10_meeting_7 : decode cX10_meeting 7 = .ok (.iload_n 2, 1) := by decide +kernel
theorem dX10_meeting_8 : decode cX10_meeting 8 = .ok (.invokestatic 137, 3) := by decide +kernel
theorem dX10_meeting_11 : decode cX10_meeting 11 = .ok (.ifCond .ne 6, 3) := by decide +kernel
theorem dX10_meeting_14 : decode cX10_meeting 14 = .ok (.bipush (-101), 2) := by decide +kernel
theorem dX10_meeting_16 : decode cX10_meeting 16 = .ok (.ireturn, 1) := by decide +kernel
theorem dX10_meeting_17 : decode cX10_meeting 17 = .ok (.iload_n 3, 1) := by decide +kernel
theorem dX10_meeting_18 : decode cX10_meeting 18 = .ok (.invokestatic 140, 3) := by decide +kernel
theorem dX10_meeting_21 : decode cX10_meeting 21 = .ok (.ifCond .eq 24, 3) := by decide +kernel
theorem dX10_meeting_24 : decode cX10_meeting 24 = .ok (.iload 4, 2) := by decide +kernel
theorem dX10_meeting_26 : decode cX10_meeting 26 = .ok (.iload 5, 2) := by decide +kernel
theorem dX10_meeting_28 : decode cX10_meeting 28 = .ok (.invokestatic 143, 3) := by decide +kernel
theorem dX10_meeting_31 : decode cX10_meeting 31 = .ok (.ifCond .eq 14, 3) := by decide +kernel
theorem dX10_meeting_34 : decode cX10_meeting 34 = .ok (.iload 6, 2) := by decide +kernel
theorem dX10_meeting_36 : decode cX10_meeting 36 = .ok (.ifCond .lt 9, 3) := by decide +kernel
theorem dX10_meeting_39 : decode cX10_meeting 39 = .ok (.iload 6, 2) := by decide +kernel
theorem dX10_meeting_41 : decode cX10_meeting 41 = .ok (.iconst 1, 1) := by decide +kernel
theorem dX10_meeting_42 : decode cX10_meeting 42 = .ok (.if_icmp .le 6, 3) := by decide +kernel
theorem dX10_meeting_45 : decode cX10_meeting 45 = .ok (.bipush (-102), 2) := by decide +kernel
theorem dX10_meeting_47 : decode cX10_meeting 47 = .ok (.ireturn, 1) := by decide +kernel
theorem dX10_meeting_48 : decode cX10_meeting 48 = .ok (.aload_n 0, 1) := by decide +kernel
theorem dX10_meeting_49 : decode cX10_meeting 49 = .ok (.iload_n 3, 1) := by decide +kernel
theorem dX10_meeting_50 : decode cX10_meeting 50 = .ok (.sipush 400, 3) := by decide +kernel
theorem dX10_meeting_53 : decode cX10_meeting 53 = .ok (.iload 4, 2) := by decide +kernel
theorem dX10_meeting_55 : decode cX10_meeting 55 = .ok (.iload 5, 2) := by decide +kernel
theorem dX10_meeting_57 : decode cX10_meeting 57 = .ok (.invokevirtual 147, 3) := by decide +kernel
theorem dX10_meeting_60 : decode cX10_meeting 60 = .ok (.aload_n 0, 1) := by decide +kernel
theorem dX10_meeting_61 : decode cX10_meeting 61 = .ok (.getfield 47, 3) := by decide +kernel
theorem dX10_meeting_64 : decode cX10_meeting 64 = .ok (.iload_n 1, 1) := by decide +kernel
theorem dX10_meeting_65 : decode cX10_meeting 65 = .ok (.iconst 0, 1) := by decide +kernel
theorem dX10_meeting_66 : decode cX10_meeting 66 = .ok (.sipush 255, 3) := by decide +kernel
theorem dX10_meeting_69 : decode cX10_meeting 69 = .ok (.aload_n 0, 1) := by decide +kernel
theorem dX10_meeting_70 : decode cX10_meeting 70 = .ok (.getfield 58, 3) := by decide +kernel
theorem dX10_meeting_73 : decode cX10_meeting 73 = .ok (.invokevirtual 151, 3) := by decide +kernel
theorem dX10_meeting_76 : decode cX10_meeting 76 = .ok (.aload_n 0, 1) := by decide +kernel
theorem dX10_meeting_77 : decode cX10_meeting 77 = .ok (.getfield 47, 3) := by decide +kernel
theorem dX10_meeting_80 : decode cX10_meeting 80 = .ok (.iload_n 2, 1) := by decide +kernel
theorem dX10_meeting_81 : decode cX10_meeting 81 = .ok (.iconst 0, 1) := by decide +kernel
theorem dX10_meeting_82 : decode cX10_meeting 82 = .ok (.sipush 255, 3) := by decide +kernel
theorem dX10_meeting_85 : decode cX10_meeting 85 = .ok (.aload_n 0, 1) := by decide +kernel
theorem dX10_meeting_86 : decode cX10_meeting 86 = .ok (.getfield 62, 3) := by decide +kernel
theorem dX10_meeting_89 : decode cX10_meeting 89 = .ok (.invokevirtual 151, 3) := by decide +kernel
theorem dX10_meeting_92 : decode cX10_meeting 92 = .ok (.iconst (-1), 1) := by decide +kernel
theorem dX10_meeting_93 : decode cX10_meeting 93 = .ok (.istore 7, 2) := by decide +kernel
theorem dX10_meeting_95 : decode cX10_meeting 95 = .ok (.ldc 155, 2) := by decide +kernel
theorem dX10_meeting_97 : decode cX10_meeting 97 = .ok (.istore 8, 2) := by decide +kernel
theorem dX10_meeting_99 : decode cX10_meeting 99 = .ok (.iconst 0, 1) := by decide +kernel
theorem dX10_meeting_100 : decode cX10_meeting 100 = .ok (.istore 9, 2) := by decide +kernel
theorem dX10_meeting_102 : decode cX10_meeting 102 = .ok (.iload 9, 2) := by decide +kernel
theorem dX10_meeting_104 : decode cX10_meeting 104 = .ok (.bipush 8, 2) := by decide +kernel
theorem dX10_meeting_106 : decode cX10_meeting 106 = .ok (.if_icmp .ge 43, 3) := by decide +kernel
theorem dX10_meeting_109 : decode cX10_meeting 109 = .ok (.aload_n 0, 1) := by decide +kernel
theorem dX10_meeting_110 : decode cX10_meeting 110 = .ok (.getfield 58, 3) := by decide +kernel
theorem dX10_meeting_113 : decode cX10_meeting 113 = .ok (.iload 9, 2) := by decide +kernel
theorem dX10_meeting_115 : decode cX10_meeting 115 = .ok (.iaload, 1) := by decide +kernel
theorem dX10_meeting_116 : decode cX10_meeting 116 = .ok (.aload_n 0, 1) := by decide +kernel
theorem dX10_meeting_117 : decode cX10_meeting 117 = .ok (.getfield 62, 3) := by decide +kernel
theorem dX10_meeting_120 : decode cX10_meeting 120 = .ok (.iload 9, 2) := by decide +kernel
theorem dX10_meeting_122 : decode cX10_meeting 122 = .ok (.iaload, 1) := by decide +kernel
theorem dX10_meeting_123 : decode cX10_meeting 123 = .ok (.invokestatic 208, 3) := by decide +kernel
theorem dX10_meeting_126 : decode cX10_meeting 126 = .ok (.istore 10, 2) := by decide +kernel
theorem dX10_meeting_128 : decode cX10_meeting 128 = .ok (.iload 10, 2) := by decide +kernel
theorem dX10_meeting_130 : decode cX10_meeting 130 = .ok (.iload 8, 2) := by decide +kernel
theorem dX10_meeting_132 : decode cX10_meeting 132 = .ok (.if_icmp .ge 11, 3) := by decide +kernel
theorem dX10_meeting_135 : decode cX10_meeting 135 = .ok (.iload 10, 2) := by decide +kernel
theorem dX10_meeting_137 : decode cX10_meeting 137 = .ok (.istore 8, 2) := by decide +kernel
theorem dX10_meeting_139 : decode cX10_meeting 139 = .ok (.iload 9, 2) := by decide +kernel
theorem dX10_meeting_141 : decode cX10_meeting 141 = .ok (.istore 7, 2) := by decide +kernel
theorem dX10_meeting_143 : decode cX10_meeting 143 = .ok (.iinc 9 1, 3) := by decide +kernel
theorem dX10_meeting_146 : decode cX10_meeting 146 = .ok (.goto (-44), 3) := by decide +kernel
theorem dX10_meeting_149 : decode cX10_meeting 149 = .ok (.iload 7, 2) := by decide +kernel
theorem dX10_meeting_151 : decode cX10_meeting 151 = .ok (.iconst (-1), 1) := by decide +kernel
theorem dX10_meeting_152 : decode cX10_meeting 152 = .ok (.if_icmp .ne 5, 3) := by decide +kernel
theorem dX10_meeting_155 : decode cX10_meeting 155 = .ok (.iconst (-1), 1) := by decide +kernel
theorem dX10_meeting_156 : decode cX10_meeting 156 = .ok (.ireturn, 1) := by decide +kernel
theorem dX10_meeting_157 : decode cX10_meeting 157 = .ok (.iload 6, 2) := by decide +kernel
theorem dX10_meeting_159 : decode cX10_meeting 159 = .ok (.ifCond .ne 8, 3) := by decide +kernel
theorem dX10_meeting_162 : decode cX10_meeting 162 = .ok (.iload 7, 2) := by decide +kernel
theorem dX10_meeting_164 : decode cX10_meeting 164 = .ok (.goto 7, 3) := by decide +kernel
theorem dX10_meeting_167 : decode cX10_meeting 167 = .ok (.iload_n 3, 1) := by decide +kernel
theorem dX10_meeting_168 : decode cX10_meeting 168 = .ok (.iload 8, 2) := by decide +kernel
theorem dX10_meeting_170 : decode cX10_meeting 170 = .ok (.iadd, 1) := by decide +kernel
theorem dX10_meeting_171 : decode cX10_meeting 171 = .ok (.ireturn, 1) := by decide +kernel
theorem dX10_note_0 : decode cX10_note 0 = .ok (.iload_n 1, 1) := by decide +kernel
theorem dX10_note_1 : decode cX10_note 1 = .ok (.invokestatic 137, 3) := by decide +kernel
theorem dX10_note_4 : decode cX10_note 4 = .ok (.ifCond .eq 10, 3) := by decide +kernel
theorem dX10_note_7 : decode cX10_note 7 = .ok (.iload_n 3, 1) := by decide +kernel
theorem dX10_note_8 : decode cX10_note 8 = .ok (.invokestatic 137, 3) := by decide +kernel
theorem dX10_note_11 : decode cX10_note 11 = .ok (.ifCond .ne 6, 3) := by decide +kernel
theorem dX10_note_14 : decode cX10_note 14 = .ok (.bipush (-101), 2) := by decide +kernel
theorem dX10_note_16 : decode cX10_note 16 = .ok (.ireturn, 1) := by decide +kernel
theorem dX10_note_17 : decode cX10_note 17 = .ok (.iload_n 2, 1) := by decide +kernel
theorem dX10_note_18 : decode cX10_note 18 = .ok (.ifCond .lt 9, 3) := by decide +kernel
theorem dX10_note_21 : decode cX10_note 21 = .ok (.iload_n 2, 1) := by decide +kernel
theorem dX10_note_22 : decode cX10_note 22 = .ok (.bipush 99, 2) := by decide +kernel
theorem dX10_note_24 : decode cX10_note 24 = .ok (.if_icmp .le 6, 3) := by decide +kernel
theorem dX10_note_27 : decode cX10_note 27 = .ok (.bipush (-102), 2) := by decide +kernel
theorem dX10_note_29 : decode cX10_note 29 = .ok (.ireturn, 1) := by decide +kernel
theorem dX10_note_30 : decode cX10_note 30 = .ok (.iload 4, 2) := by decide +kernel
theorem dX10_note_32 : decode cX10_note 32 = .ok (.iload_n 2, 1) := by decide +kernel
theorem dX10_note_33 : decode cX10_note 33 = .ok (.if_icmp .lt 13, 3) := by decide +kernel
theorem dX10_note_36 : decode cX10_note 36 = .ok (.iload 4, 2) := by decide +kernel
theorem dX10_note_38 : decode cX10_note 38 = .ok (.iload_n 2, 1) := by decide +kernel
theorem dX10_note_39 : decode cX10_note 39 = .ok (.sipush 400, 3) := by decide +kernel
theorem dX10_note_42 : decode cX10_note 42 = .ok (.iadd, 1) := by decide +kernel
theorem dX10_note_43 : decode cX10_note 43 = .ok (.if_icmp .le 6, 3) := by decide +kernel
theorem dX10_note_46 : decode cX10_note 46 = .ok (.bipush (-102), 2) := by decide +kernel
theorem dX10_note_48 : decode cX10_note 48 = .ok (.ireturn, 1) := by decide +kernel
theorem dX10_note_49 : decode cX10_note 49 = .ok (.aload_n 0, 1) := by decide +kernel
theorem dX10_note_50 : decode cX10_note 50 = .ok (.getfield 33, 3) := by decide +kernel
theorem dX10_note_53 : decode cX10_note 53 = .ok (.invokevirtual 213, 3) := by decide +kernel
theorem dX10_note_56 : decode cX10_note 56 = .ok (.ifCond .eq 6, 3) := by decide +kernel
theorem dX10_note_59 : decode cX10_note 59 = .ok (.bipush (-104), 2) := by decide +kernel
theorem dX10_note_61 : decode cX10_note 61 = .ok (.ireturn, 1) := by decide +kernel
theorem dX10_note_62 : decode cX10_note 62 = .ok (.aload_n 0, 1) := by decide +kernel
theorem dX10_note_63 : decode cX10_note 63 = .ok (.getfield 33, 3) := by decide +kernel
theorem dX10_note_66 : decode cX10_note 66 = .ok (.iload_n 1, 1) := by decide +kernel
theorem dX10_note_67 : decode cX10_note 67 = .ok (.iload_n 2, 1) := by decide +kernel
theorem dX10_note_68 : decode cX10_note 68 = .ok (.iload_n 3, 1) := by decide +kernel
theorem dX10_note_69 : decode cX10_note 69 = .ok (.iload 4, 2) := by decide +kernel
theorem dX10_note_71 : decode cX10_note 71 = .ok (.invokevirtual 216, 3) := by decide +kernel
theorem dX10_note_74 : decode cX10_note 74 = .ok (.ireturn, 1) := by decide +kernel
theorem dX10_forget_0 : decode cX10_forget 0 = .ok (.aload_n 0, 1) := by decide +kernel
theorem dX10_forget_1 : decode cX10_forget 1 = .ok (.getfield 33, 3) := by decide +kernel
theorem dX10_forget_4 : decode cX10_forget 4 = .ok (.invokevirtual 219, 3) := by decide +kernel
theorem dX10_forget_7 : decode cX10_forget 7 = .ok (.ireturn, 1) := by decide +kernel
theorem dX10_lost_0 : decode cX10_lost 0 = .ok (.aload_n 0, 1) := by decide +kernel
theorem dX10_lost_1 : decode cX10_lost 1 = .ok (.iload_n 1, 1) := by decide +kernel
theorem dX10_lost_2 : decode cX10_lost 2 = .ok (.invokevirtual 109, 3) := by decide +kernel
theorem dX10_lost_5 : decode cX10_lost 5 = .ok (.ifCond .ne 6, 3) := by decide +kernel
theorem dX10_lost_8 : decode cX10_lost 8 = .ok (.bipush (-101), 2) := by decide +kernel
theorem dX10_lost_10 : decode cX10_lost 10 = .ok (.ireturn, 1) := by decide +kernel
theorem dX10_lost_11 : decode cX10_lost 11 = .ok (.aload_n 0, 1) := by decide +kernel
theorem dX10_lost_12 : decode cX10_lost 12 = .ok (.getfield 26, 3) := by decide +kernel
theorem dX10_lost_15 : decode cX10_lost 15 = .ok (.iload_n 1, 1) := by decide +kernel
theorem dX10_lost_16 : decode cX10_lost 16 = .ok (.invokevirtual 112, 3) := by decide +kernel
theorem dX10_lost_19 : decode cX10_lost 19 = .ok (.checkcast 116, 3) := by decide +kernel
theorem dX10_lost_22 : decode cX10_lost 22 = .ok (.astore_n 2, 1) := by decide +kernel
theorem dX10_lost_23 : decode cX10_lost 23 = .ok (.aload_n 0, 1) := by decide +kernel
theorem dX10_lost_24 : decode cX10_lost 24 = .ok (.iconst 0, 1) := by decide +kernel
theorem dX10_lost_25 : decode cX10_lost 25 = .ok (.sipush 499, 3) := by decide +kernel
theorem dX10_lost_28 : decode cX10_lost 28 = .ok (.iconst 1, 1) := by decide +kernel
theorem dX10_lost_29 : decode cX10_lost 29 = .ok (.iconst 1, 1) := by decide +kernel
theorem dX10_lost_30 : decode cX10_lost 30 = .ok (.invokevirtual 147, 3) := by decide +kernel
theorem dX10_lost_33 : decode cX10_lost 33 = .ok (.aload_n 2, 1) := by decide +kernel
theorem dX10_lost_34 : decode cX10_lost 34 = .ok (.instanceof 184, 3) := by decide +kernel
theorem dX10_lost_37 : decode cX10_lost 37 = .ok (.ifCond .eq 16, 3) := by decide +kernel
theorem dX10_lost_40 : decode cX10_lost 40 = .ok (.aload_n 0, 1) := by decide +kernel
theorem dX10_lost_41 : decode cX10_lost 41 = .ok (.invokevirtual 220, 3) := by decide +kernel
theorem dX10_lost_44 : decode cX10_lost 44 = .ok (.ifCond .eq 7, 3) := by decide +kernel
theorem dX10_lost_47 : decode cX10_lost 47 = .ok (.iconst 1, 1) := by decide +kernel
theorem dX10_lost_48 : decode cX10_lost 48 = .ok (.goto 4, 3) := by decide +kernel
theorem dX10_lost_51 : decode cX10_lost 51 = .ok (.iconst 0, 1) := by decide +kernel
theorem dX10_lost_52 : decode cX10_lost 52 = .ok (.ireturn, 1) := by decide +kernel
theorem dX10_lost_53 : decode cX10_lost 53 = .ok (.aload_n 2, 1) := by decide +kernel
theorem dX10_lost_54 : decode cX10_lost 54 = .ok (.aload_n 0, 1) := by decide +kernel
theorem dX10_lost_55 : decode cX10_lost 55 = .ok (.getfield 65, 3) := by decide +kernel
theorem dX10_lost_58 : decode cX10_lost 58 = .ok (.invokevirtual 160, 3) := by decide +kernel
theorem dX10_lost_61 : decode cX10_lost 61 = .ok (.istore_n 3, 1) := by decide +kernel
theorem dX10_lost_62 : decode cX10_lost 62 = .ok (.iload_n 3, 1) := by decide +kernel
theorem dX10_lost_63 : decode cX10_lost 63 = .ok (.iconst 1, 1) := by decide +kernel
theorem dX10_lost_64 : decode cX10_lost 64 = .ok (.if_icmp .ge 5, 3) := by decide +kernel
theorem dX10_lost_67 : decode cX10_lost 67 = .ok (.iconst 0, 1) := by decide +kernel
theorem dX10_lost_68 : decode cX10_lost 68 = .ok (.ireturn, 1) := by decide +kernel
theorem dX10_lost_69 : decode cX10_lost 69 = .ok (.iconst 0, 1) := by decide +kernel
theorem dX10_lost_70 : decode cX10_lost 70 = .ok (.istore 4, 2) := by decide +kernel
theorem dX10_lost_72 : decode cX10_lost 72 = .ok (.iconst 0, 1) := by decide +kernel
theorem dX10_lost_73 : decode cX10_lost 73 = .ok (.istore 5, 2) := by decide +kernel
theorem dX10_lost_75 : decode cX10_lost 75 = .ok (.iload 5, 2) := by decide +kernel
theorem dX10_lost_77 : decode cX10_lost 77 = .ok (.bipush 9, 2) := by decide +kernel
theorem dX10_lost_79 : decode cX10_lost 79 = .ok (.if_icmp .gt 49, 3) := by decide +kernel
theorem dX10_lost_82 : decode cX10_lost 82 = .ok (.aload_n 0, 1) := by decide +kernel
theorem dX10_lost_83 : decode cX10_lost 83 = .ok (.getfield 47, 3) := by decide +kernel
theorem dX10_lost_86 : decode cX10_lost 86 = .ok (.iload_n 1, 1) := by decide +kernel
theorem dX10_lost_87 : decode cX10_lost 87 = .ok (.aload_n 2, 1) := by decide +kernel
theorem dX10_lost_88 : decode cX10_lost 88 = .ok (.aload_n 2, 1) := by decide +kernel
theorem dX10_lost_89 : decode cX10_lost 89 = .ok (.getfield 126, 3) := by decide +kernel
theorem dX10_lost_92 : decode cX10_lost 92 = .ok (.iload 5, 2) := by decide +kernel
theorem dX10_lost_94 : decode cX10_lost 94 = .ok (.isub, 1) := by decide +kernel
theorem dX10_lost_95 : decode cX10_lost 95 = .ok (.iload_n 3, 1) := by decide +kernel
theorem dX10_lost_96 : decode cX10_lost 96 = .ok (.invokestatic 223, 3) := by decide +kernel
theorem dX10_lost_99 : decode cX10_lost 99 = .ok (.aload_n 0, 1) := by decide +kernel
theorem dX10_lost_100 : decode cX10_lost 100 = .ok (.getfield 65, 3) := by decide +kernel
theorem dX10_lost_103 : decode cX10_lost 103 = .ok (.invokevirtual 186, 3) := by decide +kernel
theorem dX10_lost_106 : decode cX10_lost 106 = .ok (.aload_n 0, 1) := by decide +kernel
theorem dX10_lost_107 : decode cX10_lost 107 = .ok (.invokevirtual 220, 3) := by decide +kernel
theorem dX10_lost_110 : decode cX10_lost 110 = .ok (.ifCond .eq 12, 3) := by decide +kernel
theorem dX10_lost_113 : decode cX10_lost 113 = .ok (.iload 4, 2) := by decide +kernel
theorem dX10_lost_115 : decode cX10_lost 115 = .ok (.iconst 1, 1) := by decide +kernel
theorem dX10_lost_116 : decode cX10_lost 116 = .ok (.iload 5, 2) := by decide +kernel
theorem dX10_lost_118 : decode cX10_lost 118 = .ok (.ishl, 1) := by decide +kernel
theorem dX10_lost_119 : decode cX10_lost 119 = .ok (.ior, 1) := by decide +kernel
theorem dX10_lost_120 : decode cX10_lost 120 = .ok (.istore 4, 2) := by decide +kernel
theorem dX10_lost_122 : decode cX10_lost 122 = .ok (.iinc 5 1, 3) := by decide +kernel
theorem dX10_lost_125 : decode cX10_lost 125 = .ok (.goto (-50), 3) := by decide +kernel
theorem dX10_lost_128 : decode cX10_lost 128 = .ok (.iload 4, 2) := by decide +kernel
theorem dX10_lost_130 : decode cX10_lost 130 = .ok (.ireturn, 1) := by decide +kernel
theorem dX10_worth_0 : decode cX10_worth 0 = .ok (.aload_n 0, 1) := by decide +kernel
theorem dX10_worth_1 : decode cX10_worth 1 = .ok (.iload_n 1, 1) := by decide +kernel
theorem dX10_worth_2 : decode cX10_worth 2 = .ok (.invokevirtual 109, 3) := by decide +kernel
theorem dX10_worth_5 : decode cX10_worth 5 = .ok (.ifCond .ne 6, 3) := by decide +kernel
theorem dX10_worth_8 : decode cX10_worth 8 = .ok (.bipush (-101), 2) := by decide +kernel
theorem dX10_worth_10 : decode cX10_worth 10 = .ok (.ireturn, 1) := by decide +kernel
theorem dX10_worth_11 : decode cX10_worth 11 = .ok (.iload_n 2, 1) := by decide +kernel
theorem dX10_worth_12 : decode cX10_worth 12 = .ok (.iload_n 3, 1) := by decide +kernel
theorem dX10_worth_13 : decode cX10_worth 13 = .ok (.invokestatic 143, 3) := by decide +kernel
theorem dX10_worth_16 : decode cX10_worth 16 = .ok (.ifCond .ne 6, 3) := by decide +kernel
theorem dX10_worth_19 : decode cX10_worth 19 = .ok (.bipush (-102), 2) := by decide +kernel
theorem dX10_worth_21 : decode cX10_worth 21 = .ok (.ireturn, 1) := by decide +kernel
theorem dX10_worth_22 : decode cX10_worth 22 = .ok (.aload_n 0, 1) := by decide +kernel
theorem dX10_worth_23 : decode cX10_worth 23 = .ok (.iconst 0, 1) := by decide +kernel
theorem dX10_worth_24 : decode cX10_worth 24 = .ok (.sipush 400, 3) := by decide +kernel
theorem dX10_worth_27 : decode cX10_worth 27 = .ok (.iload_n 2, 1) := by decide +kernel
theorem dX10_worth_28 : decode cX10_worth 28 = .ok (.iload_n 3, 1) := by decide +kernel
theorem dX10_worth_29 : decode cX10_worth 29 = .ok (.invokevirtual 147, 3) := by decide +kernel
theorem dX10_worth_32 : decode cX10_worth 32 = .ok (.aload_n 0, 1) := by decide +kernel
theorem dX10_worth_33 : decode cX10_worth 33 = .ok (.invokevirtual 226, 3) := by decide +kernel
theorem dX10_worth_36 : decode cX10_worth 36 = .ok (.istore 4, 2) := by decide +kernel
theorem dX10_worth_38 : decode cX10_worth 38 = .ok (.aload_n 0, 1) := by decide +kernel
theorem dX10_worth_39 : decode cX10_worth 39 = .ok (.getfield 47, 3) := by decide +kernel
theorem dX10_worth_42 : decode cX10_worth 42 = .ok (.iload_n 1, 1) := by decide +kernel
theorem dX10_worth_43 : decode cX10_worth 43 = .ok (.invokevirtual 229, 3) := by decide +kernel
theorem dX10_worth_46 : decode cX10_worth 46 = .ok (.aload_n 0, 1) := by decide +kernel
theorem dX10_worth_47 : decode cX10_worth 47 = .ok (.invokevirtual 226, 3) := by decide +kernel
theorem dX10_worth_50 : decode cX10_worth 50 = .ok (.iload 4, 2) := by decide +kernel
theorem dX10_worth_52 : decode cX10_worth 52 = .ok (.isub, 1) := by decide +kernel
theorem dX10_worth_53 : decode cX10_worth 53 = .ok (.ireturn, 1) := by decide +kernel
theorem dX10_image_0 : decode cX10_image 0 = .ok (.aload_n 0, 1) := by decide +kernel
theorem dX10_image_1 : decode cX10_image 1 = .ok (.getfield 40, 3) := by decide +kernel
theorem dX10_image_4 : decode cX10_image 4 = .ok (.aload_n 0, 1) := by decide +kernel
theorem dX10_image_5 : decode cX10_image 5 = .ok (.getfield 26, 3) := by decide +kernel
theorem dX10_image_8 : decode cX10_image 8 = .ok (.aload_n 0, 1) := by decide +kernel
theorem dX10_image_9 : decode cX10_image 9 = .ok (.getfield 65, 3) := by decide +kernel
theorem dX10_image_12 : decode cX10_image 12 = .ok (.aload_n 0, 1) := by decide +kernel
theorem dX10_image_13 : decode cX10_image 13 = .ok (.getfield 33, 3) := by decide +kernel
theorem dX10_image_16 : decode cX10_image 16 = .ok (.invokevirtual 232, 3) := by decide +kernel
theorem dX10_image_19 : decode cX10_image 19 = .ok (.aload_n 0, 1) := by decide +kernel
theorem dX10_image_20 : decode cX10_image 20 = .ok (.getfield 26, 3) := by decide +kernel
theorem dX10_image_23 : decode cX10_image 23 = .ok (.invokevirtual 100, 3) := by decide +kernel
theorem dX10_image_26 : decode cX10_image 26 = .ok (.ireturn, 1) := by decide +kernel
theorem dX10_restore_0 : decode cX10_restore 0 = .ok (.aload_n 0, 1) := by decide +kernel
theorem dX10_restore_1 : decode cX10_restore 1 = .ok (.getfield 40, 3) := by decide +kernel
theorem dX10_restore_4 : decode cX10_restore 4 = .ok (.invokevirtual 236, 3) := by decide +kernel
theorem dX10_restore_7 : decode cX10_restore 7 = .ok (.ifCond .ne 6, 3) := by decide +kernel
theorem dX10_restore_10 : decode cX10_restore 10 = .ok (.bipush (-103), 2) := by decide +kernel
theorem dX10_restore_12 : decode cX10_restore 12 = .ok (.ireturn, 1) := by decide +kernel
theorem dX10_restore_13 : decode cX10_restore 13 = .ok (.aload_n 0, 1) := by decide +kernel
theorem dX10_restore_14 : decode cX10_restore 14 = .ok (.getfield 40, 3) := by decide +kernel
theorem dX10_restore_17 : decode cX10_restore 17 = .ok (.aload_n 0, 1) := by decide +kernel
theorem dX10_restore_18 : decode cX10_restore 18 = .ok (.getfield 26, 3) := by decide +kernel
theorem dX10_restore_21 : decode cX10_restore 21 = .ok (.aload_n 0, 1) := by decide +kernel
theorem dX10_restore_22 : decode cX10_restore 22 = .ok (.getfield 33, 3) := by decide +kernel
theorem dX10_restore_25 : decode cX10_restore 25 = .ok (.invokevirtual 239, 3) := by decide +kernel
theorem dX10_restore_28 : decode cX10_restore 28 = .ok (.aload_n 0, 1) := by decide +kernel
theorem dX10_restore_29 : decode cX10_restore 29 = .ok (.aload_n 0, 1) := by decide +kernel
theorem dX10_restore_30 : decode cX10_restore 30 = .ok (.getfield 40, 3) := by decide +kernel
theorem dX10_restore_33 : decode cX10_restore 33 = .ok (.invokevirtual 243, 3) := by decide +kernel
theorem dX10_restore_36 : decode cX10_restore 36 = .ok (.putfield 65, 3) := by decide +kernel
theorem dX10_restore_39 : decode cX10_restore 39 = .ok (.aload_n 0, 1) := by decide +kernel
theorem dX10_restore_40 : decode cX10_restore 40 = .ok (.getfield 26, 3) := by decide +kernel
theorem dX10_restore_43 : decode cX10_restore 43 = .ok (.invokevirtual 100, 3) := by decide +kernel
theorem dX10_restore_46 : decode cX10_restore 46 = .ok (.ireturn, 1) := by decide +kernel
theorem dX10_count_0 : decode cX10_count 0 = .ok (.iload_n 1, 1) := by decide +kernel
theorem dX10_count_1 : decode cX10_count 1 = .ok (.tableswitch 77 0 4 #[35, 43, 56, 64, 72], 35) := by decide +kernel
theorem dX10_count_36 : decode cX10_count 36 = .ok (.aload_n 0, 1) := by decide +kernel
theorem dX10_count_37 : decode cX10_count 37 = .ok (.getfield 26, 3) := by decide +kernel
theorem dX10_count_40 : decode cX10_count 40 = .ok (.invokevirtual 100, 3) := by decide +kernel
theorem dX10_count_43 : decode cX10_count 43 = .ok (.ireturn, 1) := by decide +kernel
theorem dX10_count_44 : decode cX10_count 44 = .ok (.aload_n 0, 1) := by decide +kernel
theorem dX10_count_45 : decode cX10_count 45 = .ok (.getfield 65, 3) := by decide +kernel
theorem dX10_count_48 : decode cX10_count 48 = .ok (.ifCond .eq 7, 3) := by decide +kernel
theorem dX10_count_51 : decode cX10_count 51 = .ok (.iconst 1, 1) := by decide +kernel
theorem dX10_count_52 : decode cX10_count 52 = .ok (.goto 4, 3) := by decide +kernel
theorem dX10_count_55 : decode cX10_count 55 = .ok (.iconst 0, 1) := by decide +kernel
theorem dX10_count_56 : decode cX10_count 56 = .ok (.ireturn, 1) := by decide +kernel
theorem dX10_count_57 : decode cX10_count 57 = .ok (.aload_n 0, 1) := by decide +kernel
theorem dX10_count_58 : decode cX10_count 58 = .ok (.getfield 33, 3) := by decide +kernel
theorem dX10_count_61 : decode cX10_count 61 = .ok (.invokevirtual 246, 3) := by decide +kernel
theorem dX10_count_64 : decode cX10_count 64 = .ok (.ireturn, 1) := by decide +kernel
theorem dX10_count_65 : decode cX10_count 65 = .ok (.aload_n 0, 1) := by decide +kernel
theorem dX10_count_66 : decode cX10_count 66 = .ok (.getfield 10, 3) := by decide +kernel
theorem dX10_count_69 : decode cX10_count 69 = .ok (.invokevirtual 85, 3) := by decide +kernel
theorem dX10_count_72 : decode cX10_count 72 = .ok (.ireturn, 1) := by decide +kernel
theorem dX10_count_73 : decode cX10_count 73 = .ok (.aload_n 0, 1) := by decide +kernel
theorem dX10_count_74 : decode cX10_count 74 = .ok (.invokevirtual 247, 3) := by decide +kernel
theorem dX10_count_77 : decode cX10_count 77 = .ok (.ireturn, 1) := by decide +kernel
theorem dX10_count_78 : decode cX10_count 78 = .ok (.bipush (-102), 2) := by decide +kernel
theorem dX10_count_80 : decode cX10_count 80 = .ok (.ireturn, 1) := by decide +kernel
theorem dX10_digest_0 : decode cX10_digest 0 = .ok (.ldc2_w 250, 3) := by decide +kernel
theorem dX10_digest_3 : decode cX10_digest 3 = .ok (.lstore_n 1, 1) := by decide +kernel
theorem dX10_digest_4 : decode cX10_digest 4 = .ok (.iconst 0, 1) := by decide +kernel
theorem dX10_digest_5 : decode cX10_digest 5 = .ok (.istore_n 3, 1) := by decide +kernel
theorem dX10_digest_6 : decode cX10_digest 6 = .ok (.iload_n 3, 1) := by decide +kernel
theorem dX10_digest_7 : decode cX10_digest 7 = .ok (.aload_n 0, 1) := by decide +kernel
theorem dX10_digest_8 : decode cX10_digest 8 = .ok (.getfield 26, 3) := by decide +kernel
theorem dX10_digest_11 : decode cX10_digest 11 = .ok (.invokevirtual 100, 3) := by decide +kernel
theorem dX10_digest_14 : decode cX10_digest 14 = .ok (.if_icmp .ge 26, 3) := by decide +kernel
theorem dX10_digest_17 : decode cX10_digest 17 = .ok (.aload_n 0, 1) := by decide +kernel
theorem dX10_digest_18 : decode cX10_digest 18 = .ok (.lload_n 1, 1) := by decide +kernel
theorem dX10_digest_19 : decode cX10_digest 19 = .ok (.aload_n 0, 1) := by decide +kernel
theorem dX10_digest_20 : decode cX10_digest 20 = .ok (.getfield 26, 3) := by decide +kernel
theorem dX10_digest_23 : decode cX10_digest 23 = .ok (.iload_n 3, 1) := by decide +kernel
theorem dX10_digest_24 : decode cX10_digest 24 = .ok (.invokevirtual 112, 3) := by decide +kernel
theorem dX10_digest_27 : decode cX10_digest 27 = .ok (.checkcast 116, 3) := by decide +kernel
theorem dX10_digest_30 : decode cX10_digest 30 = .ok (.invokevirtual 252, 3) := by decide +kernel
theorem dX10_digest_33 : decode cX10_digest 33 = .ok (.lstore_n 1, 1) := by decide +kernel
theorem dX10_digest_34 : decode cX10_digest 34 = .ok (.iinc 3 1, 3) := by decide +kernel
theorem dX10_digest_37 : decode cX10_digest 37 = .ok (.goto (-31), 3) := by decide +kernel
theorem dX10_digest_40 : decode cX10_digest 40 = .ok (.lload_n 1, 1) := by decide +kernel
theorem dX10_digest_41 : decode cX10_digest 41 = .ok (.aload_n 0, 1) := by decide +kernel
theorem dX10_digest_42 : decode cX10_digest 42 = .ok (.invokevirtual 256, 3) := by decide +kernel
theorem dX10_digest_45 : decode cX10_digest 45 = .ok (.invokestatic 260, 3) := by decide +kernel
theorem dX10_digest_48 : decode cX10_digest 48 = .ok (.lstore_n 1, 1) := by decide +kernel
theorem dX10_digest_49 : decode cX10_digest 49 = .ok (.aload_n 0, 1) := by decide +kernel
theorem dX10_digest_50 : decode cX10_digest 50 = .ok (.iconst 0, 1) := by decide +kernel
theorem dX10_digest_51 : decode cX10_digest 51 = .ok (.sipush 400, 3) := by decide +kernel
theorem dX10_digest_54 : decode cX10_digest 54 = .ok (.iconst 1, 1) := by decide +kernel
theorem dX10_digest_55 : decode cX10_digest 55 = .ok (.iconst 1, 1) := by decide +kernel
theorem dX10_digest_56 : decode cX10_digest 56 = .ok (.invokevirtual 147, 3) := by decide +kernel
theorem dX10_digest_59 : decode cX10_digest 59 = .ok (.aload_n 0, 1) := by decide +kernel
theorem dX10_digest_60 : decode cX10_digest 60 = .ok (.getfield 47, 3) := by decide +kernel
theorem dX10_digest_63 : decode cX10_digest 63 = .ok (.iconst 0, 1) := by decide +kernel
theorem dX10_digest_64 : decode cX10_digest 64 = .ok (.iconst 0, 1) := by decide +kernel
theorem dX10_digest_65 : decode cX10_digest 65 = .ok (.sipush 255, 3) := by decide +kernel
theorem dX10_digest_68 : decode cX10_digest 68 = .ok (.aload_n 0, 1) := by decide +kernel
theorem dX10_digest_69 : decode cX10_digest 69 = .ok (.getfield 58, 3) := by decide +kernel
theorem dX10_digest_72 : decode cX10_digest 72 = .ok (.invokevirtual 151, 3) := by decide +kernel
theorem dX10_digest_75 : decode cX10_digest 75 = .ok (.iconst 0, 1) := by decide +kernel
theorem dX10_digest_76 : decode cX10_digest 76 = .ok (.istore_n 3, 1) := by decide +kernel
theorem dX10_digest_77 : decode cX10_digest 77 = .ok (.iload_n 3, 1) := by decide +kernel
theorem dX10_digest_78 : decode cX10_digest 78 = .ok (.bipush 8, 2) := by decide +kernel
theorem dX10_digest_80 : decode cX10_digest 80 = .ok (.if_icmp .ge 52, 3) := by decide +kernel
theorem dX10_digest_83 : decode cX10_digest 83 = .ok (.lload_n 1, 1) := by decide +kernel
theorem dX10_digest_84 : decode cX10_digest 84 = .ok (.aload_n 0, 1) := by decide +kernel
theorem dX10_digest_85 : decode cX10_digest 85 = .ok (.getfield 58, 3) := by decide +kernel
theorem dX10_digest_88 : decode cX10_digest 88 = .ok (.iload_n 3, 1) := by decide +kernel
theorem dX10_digest_89 : decode cX10_digest 89 = .ok (.iaload, 1) := by decide +kernel
theorem dX10_digest_90 : decode cX10_digest 90 = .ok (.ldc 155, 2) := by decide +kernel
theorem dX10_digest_92 : decode cX10_digest 92 = .ok (.if_icmp .ne 9, 3) := by decide +kernel
theorem dX10_digest_95 : decode cX10_digest 95 = .ok (.ldc2_w 263, 3) := by decide +kernel
theorem dX10_digest_98 : decode cX10_digest 98 = .ok (.goto 10, 3) := by decide +kernel
theorem dX10_digest_101 : decode cX10_digest 101 = .ok (.aload_n 0, 1) := by decide +kernel
theorem dX10_digest_102 : decode cX10_digest 102 = .ok (.getfield 58, 3) := by decide +kernel
theorem dX10_digest_105 : decode cX10_digest 105 = .ok (.iload_n 3, 1) := by decide +kernel
theorem dX10_digest_106 : decode cX10_digest 106 = .ok (.iaload, 1) := by decide +kernel
theorem dX10_digest_107 : decode cX10_digest 107 = .ok (.i2l, 1) := by decide +kernel
theorem dX10_digest_108 : decode cX10_digest 108 = .ok (.invokestatic 260, 3) := by decide +kernel
theorem dX10_digest_111 : decode cX10_digest 111 = .ok (.lstore_n 1, 1) := by decide +kernel
theorem dX10_digest_112 : decode cX10_digest 112 = .ok (.lload_n 1, 1) := by decide +kernel
theorem dX10_digest_113 : decode cX10_digest 113 = .ok (.aload_n 0, 1) := by decide +kernel
theorem dX10_digest_114 : decode cX10_digest 114 = .ok (.iload_n 3, 1) := by decide +kernel
theorem dX10_digest_115 : decode cX10_digest 115 = .ok (.iconst 0, 1) := by decide +kernel
theorem dX10_digest_116 : decode cX10_digest 116 = .ok (.bipush 60, 2) := by decide +kernel
theorem dX10_digest_118 : decode cX10_digest 118 = .ok (.invokevirtual 168, 3) := by decide +kernel
theorem dX10_digest_121 : decode cX10_digest 121 = .ok (.i2l, 1) := by decide +kernel
theorem dX10_digest_122 : decode cX10_digest 122 = .ok (.invokestatic 260, 3) := by decide +kernel
theorem dX10_digest_125 : decode cX10_digest 125 = .ok (.lstore_n 1, 1) := by decide +kernel
theorem dX10_digest_126 : decode cX10_digest 126 = .ok (.iinc 3 1, 3) := by decide +kernel
theorem dX10_digest_129 : decode cX10_digest 129 = .ok (.goto (-52), 3) := by decide +kernel
theorem dX10_digest_132 : decode cX10_digest 132 = .ok (.iconst 0, 1) := by decide +kernel
theorem dX10_digest_133 : decode cX10_digest 133 = .ok (.istore_n 3, 1) := by decide +kernel
theorem dX10_digest_134 : decode cX10_digest 134 = .ok (.iload_n 3, 1) := by decide +kernel
theorem dX10_digest_135 : decode cX10_digest 135 = .ok (.aload_n 0, 1) := by decide +kernel
theorem dX10_digest_136 : decode cX10_digest 136 = .ok (.getfield 33, 3) := by decide +kernel
theorem dX10_digest_139 : decode cX10_digest 139 = .ok (.invokevirtual 246, 3) := by decide +kernel
theorem dX10_digest_142 : decode cX10_digest 142 = .ok (.if_icmp .ge 40, 3) := by decide +kernel
theorem dX10_digest_145 : decode cX10_digest 145 = .ok (.iconst 0, 1) := by decide +kernel
theorem dX10_digest_146 : decode cX10_digest 146 = .ok (.istore 4, 2) := by decide +kernel
theorem dX10_digest_148 : decode cX10_digest 148 = .ok (.iload 4, 2) := by decide +kernel
theorem dX10_digest_150 : decode cX10_digest 150 = .ok (.iconst 4, 1) := by decide +kernel
theorem dX10_digest_151 : decode cX10_digest 151 = .ok (.if_icmp .ge 25, 3) := by decide +kernel
theorem dX10_digest_154 : decode cX10_digest 154 = .ok (.lload_n 1, 1) := by decide +kernel
theorem dX10_digest_155 : decode cX10_digest 155 = .ok (.aload_n 0, 1) := by decide +kernel
theorem dX10_digest_156 : decode cX10_digest 156 = .ok (.getfield 33, 3) := by decide +kernel
theorem dX10_digest_159 : decode cX10_digest 159 = .ok (.iload_n 3, 1) := by decide +kernel
theorem dX10_digest_160 : decode cX10_digest 160 = .ok (.iload 4, 2) := by decide +kernel
theorem dX10_digest_162 : decode cX10_digest 162 = .ok (.invokevirtual 265, 3) := by decide +kernel
theorem dX10_digest_165 : decode cX10_digest 165 = .ok (.i2l, 1) := by decide +kernel
theorem dX10_digest_166 : decode cX10_digest 166 = .ok (.invokestatic 260, 3) := by decide +kernel
theorem dX10_digest_169 : decode cX10_digest 169 = .ok (.lstore_n 1, 1) := by decide +kernel
theorem dX10_digest_170 : decode cX10_digest 170 = .ok (.iinc 4 1, 3) := by decide +kernel
theorem dX10_digest_173 : decode cX10_digest 173 = .ok (.goto (-25), 3) := by decide +kernel
theorem dX10_digest_176 : decode cX10_digest 176 = .ok (.iinc 3 1, 3) := by decide +kernel
theorem dX10_digest_179 : decode cX10_digest 179 = .ok (.goto (-45), 3) := by decide +kernel
theorem dX10_digest_182 : decode cX10_digest 182 = .ok (.iconst 0, 1) := by decide +kernel
theorem dX10_digest_183 : decode cX10_digest 183 = .ok (.istore_n 3, 1) := by decide +kernel
theorem dX10_digest_184 : decode cX10_digest 184 = .ok (.iload_n 3, 1) := by decide +kernel
theorem dX10_digest_185 : decode cX10_digest 185 = .ok (.aload_n 0, 1) := by decide +kernel
theorem dX10_digest_186 : decode cX10_digest 186 = .ok (.getfield 10, 3) := by decide +kernel
theorem dX10_digest_189 : decode cX10_digest 189 = .ok (.invokevirtual 85, 3) := by decide +kernel
theorem dX10_digest_192 : decode cX10_digest 192 = .ok (.if_icmp .ge 23, 3) := by decide +kernel
theorem dX10_digest_195 : decode cX10_digest 195 = .ok (.lload_n 1, 1) := by decide +kernel
theorem dX10_digest_196 : decode cX10_digest 196 = .ok (.aload_n 0, 1) := by decide +kernel
theorem dX10_digest_197 : decode cX10_digest 197 = .ok (.getfield 10, 3) := by decide +kernel
theorem dX10_digest_200 : decode cX10_digest 200 = .ok (.iload_n 3, 1) := by decide +kernel
theorem dX10_digest_201 : decode cX10_digest 201 = .ok (.invokevirtual 268, 3) := by decide +kernel
theorem dX10_digest_204 : decode cX10_digest 204 = .ok (.i2l, 1) := by decide +kernel
theorem dX10_digest_205 : decode cX10_digest 205 = .ok (.invokestatic 260, 3) := by decide +kernel
theorem dX10_digest_208 : decode cX10_digest 208 = .ok (.lstore_n 1, 1) := by decide +kernel
theorem dX10_digest_209 : decode cX10_digest 209 = .ok (.iinc 3 1, 3) := by decide +kernel
theorem dX10_digest_212 : decode cX10_digest 212 = .ok (.goto (-28), 3) := by decide +kernel
theorem dX10_digest_215 : decode cX10_digest 215 = .ok (.iconst 0, 1) := by decide +kernel
theorem dX10_digest_216 : decode cX10_digest 216 = .ok (.istore_n 3, 1) := by decide +kernel
theorem dX10_digest_217 : decode cX10_digest 217 = .ok (.iload_n 3, 1) := by decide +kernel
theorem dX10_digest_218 : decode cX10_digest 218 = .ok (.iconst 4, 1) := by decide +kernel
theorem dX10_digest_219 : decode cX10_digest 219 = .ok (.if_icmp .gt 20, 3) := by decide +kernel
theorem dX10_digest_222 : decode cX10_digest 222 = .ok (.lload_n 1, 1) := by decide +kernel
theorem dX10_digest_223 : decode cX10_digest 223 = .ok (.aload_n 0, 1) := by decide +kernel
theorem dX10_digest_224 : decode cX10_digest 224 = .ok (.iload_n 3, 1) := by decide +kernel
theorem dX10_digest_225 : decode cX10_digest 225 = .ok (.invokevirtual 271, 3) := by decide +kernel
theorem dX10_digest_228 : decode cX10_digest 228 = .ok (.i2l, 1) := by decide +kernel
theorem dX10_digest_229 : decode cX10_digest 229 = .ok (.invokestatic 260, 3) := by decide +kernel
theorem dX10_digest_232 : decode cX10_digest 232 = .ok (.lstore_n 1, 1) := by decide +kernel
theorem dX10_digest_233 : decode cX10_digest 233 = .ok (.iinc 3 1, 3) := by decide +kernel
theorem dX10_digest_236 : decode cX10_digest 236 = .ok (.goto (-19), 3) := by decide +kernel
theorem dX10_digest_239 : decode cX10_digest 239 = .ok (.lload_n 1, 1) := by decide +kernel
theorem dX10_digest_240 : decode cX10_digest 240 = .ok (.lreturn, 1) := by decide +kernel
theorem dX10_byteOf_0 : decode cX10_byteOf 0 = .ok (.lload_n 0, 1) := by decide +kernel
theorem dX10_byteOf_1 : decode cX10_byteOf 1 = .ok (.bipush 8, 2) := by decide +kernel
theorem dX10_byteOf_3 : decode cX10_byteOf 3 = .ok (.iload_n 2, 1) := by decide +kernel
theorem dX10_byteOf_4 : decode cX10_byteOf 4 = .ok (.imul, 1) := by decide +kernel
theorem dX10_byteOf_5 : decode cX10_byteOf 5 = .ok (.lushr, 1) := by decide +kernel
theorem dX10_byteOf_6 : decode cX10_byteOf 6 = .ok (.l2i, 1) := by decide +kernel
theorem dX10_byteOf_7 : decode cX10_byteOf 7 = .ok (.sipush 255, 3) := by decide +kernel
theorem dX10_byteOf_10 : decode cX10_byteOf 10 = .ok (.iand, 1) := by decide +kernel
theorem dX10_byteOf_11 : decode cX10_byteOf 11 = .ok (.ireturn, 1) := by decide +kernel
theorem dX10_lettersIn_0 : decode cX10_lettersIn 0 = .ok (.iconst 0, 1) := by decide +kernel
theorem dX10_lettersIn_1 : decode cX10_lettersIn 1 = .ok (.istore_n 2, 1) := by decide +kernel
theorem dX10_lettersIn_2 : decode cX10_lettersIn 2 = .ok (.iconst 0, 1) := by decide +kernel
theorem dX10_lettersIn_3 : decode cX10_lettersIn 3 = .ok (.istore_n 3, 1) := by decide +kernel
theorem dX10_lettersIn_4 : decode cX10_lettersIn 4 = .ok (.iconst 0, 1) := by decide +kernel
theorem dX10_lettersIn_5 : decode cX10_lettersIn 5 = .ok (.istore 4, 2) := by decide +kernel
theorem dX10_lettersIn_7 : decode cX10_lettersIn 7 = .ok (.iload 4, 2) := by decide +kernel
theorem dX10_lettersIn_9 : decode cX10_lettersIn 9 = .ok (.bipush 8, 2) := by decide +kernel
theorem dX10_lettersIn_11 : decode cX10_lettersIn 11 = .ok (.if_icmp .ge 49, 3) := by decide +kernel
theorem dX10_lettersIn_14 : decode cX10_lettersIn 14 = .ok (.lload_n 0, 1) := by decide +kernel
theorem dX10_lettersIn_15 : decode cX10_lettersIn 15 = .ok (.iload 4, 2) := by decide +kernel
theorem dX10_lettersIn_17 : decode cX10_lettersIn 17 = .ok (.invokestatic 77, 3) := by decide +kernel
theorem dX10_lettersIn_20 : decode cX10_lettersIn 20 = .ok (.istore 5, 2) := by decide +kernel
theorem dX10_lettersIn_22 : decode cX10_lettersIn 22 = .ok (.iload 5, 2) := by decide +kernel
theorem dX10_lettersIn_24 : decode cX10_lettersIn 24 = .ok (.bipush 126, 2) := by decide +kernel
theorem dX10_lettersIn_26 : decode cX10_lettersIn 26 = .ok (.if_icmp .gt 12, 3) := by decide +kernel
theorem dX10_lettersIn_29 : decode cX10_lettersIn 29 = .ok (.iload_n 3, 1) := by decide +kernel
theorem dX10_lettersIn_30 : decode cX10_lettersIn 30 = .ok (.ifCond .eq 11, 3) := by decide +kernel
theorem dX10_lettersIn_33 : decode cX10_lettersIn 33 = .ok (.iload 5, 2) := by decide +kernel
theorem dX10_lettersIn_35 : decode cX10_lettersIn 35 = .ok (.ifCond .eq 6, 3) := by decide +kernel
theorem dX10_lettersIn_38 : decode cX10_lettersIn 38 = .ok (.bipush (-102), 2) := by decide +kernel
theorem dX10_lettersIn_40 : decode cX10_lettersIn 40 = .ok (.ireturn, 1) := by decide +kernel
theorem dX10_lettersIn_41 : decode cX10_lettersIn 41 = .ok (.iload 5, 2) := by decide +kernel
theorem dX10_lettersIn_43 : decode cX10_lettersIn 43 = .ok (.ifCond .ne 8, 3) := by decide +kernel
theorem dX10_lettersIn_46 : decode cX10_lettersIn 46 = .ok (.iconst 1, 1) := by decide +kernel
theorem dX10_lettersIn_47 : decode cX10_lettersIn 47 = .ok (.istore_n 3, 1) := by decide +kernel
theorem dX10_lettersIn_48 : decode cX10_lettersIn 48 = .ok (.goto 6, 3) := by decide +kernel
theorem dX10_lettersIn_51 : decode cX10_lettersIn 51 = .ok (.iinc 2 1, 3) := by decide +kernel
theorem dX10_lettersIn_54 : decode cX10_lettersIn 54 = .ok (.iinc 4 1, 3) := by decide +kernel
theorem dX10_lettersIn_57 : decode cX10_lettersIn 57 = .ok (.goto (-50), 3) := by decide +kernel
theorem dX10_lettersIn_60 : decode cX10_lettersIn 60 = .ok (.iload_n 2, 1) := by decide +kernel
theorem dX10_lettersIn_61 : decode cX10_lettersIn 61 = .ok (.ireturn, 1) := by decide +kernel
theorem dX10_isBridge_0 : decode cX10_isBridge 0 = .ok (.iload_n 1, 1) := by decide +kernel
theorem dX10_isBridge_1 : decode cX10_isBridge 1 = .ok (.ifCond .lt 18, 3) := by decide +kernel
theorem dX10_isBridge_4 : decode cX10_isBridge 4 = .ok (.iload_n 1, 1) := by decide +kernel
theorem dX10_isBridge_5 : decode cX10_isBridge 5 = .ok (.aload_n 0, 1) := by decide +kernel
theorem dX10_isBridge_6 : decode cX10_isBridge 6 = .ok (.getfield 26, 3) := by decide +kernel
theorem dX10_isBridge_9 : decode cX10_isBridge 9 = .ok (.invokevirtual 100, 3) := by decide +kernel
theorem dX10_isBridge_12 : decode cX10_isBridge 12 = .ok (.if_icmp .ge 7, 3) := by decide +kernel
theorem dX10_isBridge_15 : decode cX10_isBridge 15 = .ok (.iconst 1, 1) := by decide +kernel
theorem dX10_isBridge_16 : decode cX10_isBridge 16 = .ok (.goto 4, 3) := by decide +kernel
theorem dX10_isBridge_19 : decode cX10_isBridge 19 = .ok (.iconst 0, 1) := by decide +kernel
theorem dX10_isBridge_20 : decode cX10_isBridge 20 = .ok (.ireturn, 1) := by decide +kernel
theorem dX10_isIslet_0 : decode cX10_isIslet 0 = .ok (.iload_n 0, 1) := by decide +kernel
theorem dX10_isIslet_1 : decode cX10_isIslet 1 = .ok (.ifCond .lt 13, 3) := by decide +kernel
theorem dX10_isIslet_4 : decode cX10_isIslet 4 = .ok (.iload_n 0, 1) := by decide +kernel
theorem dX10_isIslet_5 : decode cX10_isIslet 5 = .ok (.bipush 8, 2) := by decide +kernel
theorem dX10_isIslet_7 : decode cX10_isIslet 7 = .ok (.if_icmp .ge 7, 3) := by decide +kernel
theorem dX10_isIslet_10 : decode cX10_isIslet 10 = .ok (.iconst 1, 1) := by decide +kernel
theorem dX10_isIslet_11 : decode cX10_isIslet 11 = .ok (.goto 4, 3) := by decide +kernel
theorem dX10_isIslet_14 : decode cX10_isIslet 14 = .ok (.iconst 0, 1) := by decide +kernel
theorem dX10_isIslet_15 : decode cX10_isIslet 15 = .ok (.ireturn, 1) := by decide +kernel
theorem dX10_isMinute_0 : decode cX10_isMinute 0 = .ok (.iload_n 0, 1) := by decide +kernel
theorem dX10_isMinute_1 : decode cX10_isMinute 1 = .ok (.ifCond .lt 14, 3) := by decide +kernel
theorem dX10_isMinute_4 : decode cX10_isMinute 4 = .ok (.iload_n 0, 1) := by decide +kernel
theorem dX10_isMinute_5 : decode cX10_isMinute 5 = .ok (.sipush 999, 3) := by decide +kernel
theorem dX10_isMinute_8 : decode cX10_isMinute 8 = .ok (.if_icmp .gt 7, 3) := by decide +kernel
theorem dX10_isMinute_11 : decode cX10_isMinute 11 = .ok (.iconst 1, 1) := by decide +kernel
theorem dX10_isMinute_12 : decode cX10_isMinute 12 = .ok (.goto 4, 3) := by decide +kernel
theorem dX10_isMinute_15 : decode cX10_isMinute 15 = .ok (.iconst 0, 1) := by decide +kernel
theorem dX10_isMinute_16 : decode cX10_isMinute 16 = .ok (.ireturn, 1) := by decide +kernel
theorem dX10_isManyStarts_0 : decode cX10_isManyStarts 0 = .ok (.iload_n 0, 1) := by decide +kernel
theorem dX10_isManyStarts_1 : decode cX10_isManyStarts 1 = .ok (.iconst 1, 1) := by decide +kernel
theorem dX10_isManyStarts_2 : decode cX10_isManyStarts 2 = .ok (.if_icmp .lt 13, 3) := by decide +kernel
theorem dX10_isManyStarts_5 : decode cX10_isManyStarts 5 = .ok (.iload_n 0, 1) := by decide +kernel
theorem dX10_isManyStarts_6 : decode cX10_isManyStarts 6 = .ok (.bipush 60, 2) := by decide +kernel
theorem dX10_isManyStarts_8 : decode cX10_isManyStarts 8 = .ok (.if_icmp .gt 7, 3) := by decide +kernel
theorem dX10_isManyStarts_11 : decode cX10_isManyStarts 11 = .ok (.iconst 1, 1) := by decide +kernel
theorem dX10_isManyStarts_12 : decode cX10_isManyStarts 12 = .ok (.goto 4, 3) := by decide +kernel
theorem dX10_isManyStarts_15 : decode cX10_isManyStarts 15 = .ok (.iconst 0, 1) := by decide +kernel
theorem dX10_isManyStarts_16 : decode cX10_isManyStarts 16 = .ok (.ireturn, 1) := by decide +kernel
theorem dX10_isCarrier_0 : decode cX10_isCarrier 0 = .ok (.iload_n 0, 1) := by decide +kernel
theorem dX10_isCarrier_1 : decode cX10_isCarrier 1 = .ok (.iconst 1, 1) := by decide +kernel
theorem dX10_isCarrier_2 : decode cX10_isCarrier 2 = .ok (.if_icmp .lt 24, 3) := by decide +kernel
theorem dX10_isCarrier_5 : decode cX10_isCarrier 5 = .ok (.iload_n 0, 1) := by decide +kernel
theorem dX10_isCarrier_6 : decode cX10_isCarrier 6 = .ok (.bipush 9, 2) := by decide +kernel
theorem dX10_isCarrier_8 : decode cX10_isCarrier 8 = .ok (.if_icmp .gt 18, 3) := by decide +kernel
theorem dX10_isCarrier_11 : decode cX10_isCarrier 11 = .ok (.iload_n 1, 1) := by decide +kernel
theorem dX10_isCarrier_12 : decode cX10_isCarrier 12 = .ok (.iconst 1, 1) := by decide +kernel
theorem dX10_isCarrier_13 : decode cX10_isCarrier 13 = .ok (.if_icmp .lt 13, 3) := by decide +kernel
theorem dX10_isCarrier_16 : decode cX10_isCarrier 16 = .ok (.iload_n 1, 1) := by decide +kernel
theorem dX10_isCarrier_17 : decode cX10_isCarrier 17 = .ok (.bipush 9, 2) := by decide +kernel
theorem dX10_isCarrier_19 : decode cX10_isCarrier 19 = .ok (.if_icmp .gt 7, 3) := by decide +kernel
theorem dX10_isCarrier_22 : decode cX10_isCarrier 22 = .ok (.iconst 1, 1) := by decide +kernel
theorem dX10_isCarrier_23 : decode cX10_isCarrier 23 = .ok (.goto 4, 3) := by decide +kernel
theorem dX10_isCarrier_26 : decode cX10_isCarrier 26 = .ok (.iconst 0, 1) := by decide +kernel
theorem dX10_isCarrier_27 : decode cX10_isCarrier 27 = .ok (.ireturn, 1) := by decide +kernel
theorem dX10_isOfKind_0 : decode cX10_isOfKind 0 = .ok (.iload_n 1, 1) := by decide +kernel
theorem dX10_isOfKind_1 : decode cX10_isOfKind 1 = .ok (.tableswitch 48 0 3 #[31, 33, 38, 43], 31) := by decide +kernel
theorem dX10_isOfKind_32 : decode cX10_isOfKind 32 = .ok (.iconst 1, 1) := by decide +kernel
theorem dX10_isOfKind_33 : decode cX10_isOfKind 33 = .ok (.ireturn, 1) := by decide +kernel
theorem dX10_isOfKind_34 : decode cX10_isOfKind 34 = .ok (.aload_n 0, 1) := by decide +kernel
theorem dX10_isOfKind_35 : decode cX10_isOfKind 35 = .ok (.instanceof 274, 3) := by decide +kernel
theorem dX10_isOfKind_38 : decode cX10_isOfKind 38 = .ok (.ireturn, 1) := by decide +kernel
theorem dX10_isOfKind_39 : decode cX10_isOfKind 39 = .ok (.aload_n 0, 1) := by decide +kernel
theorem dX10_isOfKind_40 : decode cX10_isOfKind 40 = .ok (.instanceof 276, 3) := by decide +kernel
theorem dX10_isOfKind_43 : decode cX10_isOfKind 43 = .ok (.ireturn, 1) := by decide +kernel
theorem dX10_isOfKind_44 : decode cX10_isOfKind 44 = .ok (.aload_n 0, 1) := by decide +kernel
theorem dX10_isOfKind_45 : decode cX10_isOfKind 45 = .ok (.instanceof 184, 3) := by decide +kernel
theorem dX10_isOfKind_48 : decode cX10_isOfKind 48 = .ok (.ireturn, 1) := by decide +kernel
theorem dX10_isOfKind_49 : decode cX10_isOfKind 49 = .ok (.iconst 0, 1) := by decide +kernel
theorem dX10_isOfKind_50 : decode cX10_isOfKind 50 = .ok (.ireturn, 1) := by decide +kernel
theorem dX10_told_0 : decode cX10_told 0 = .ok (.iload_n 2, 1) := by decide +kernel
theorem dX10_told_1 : decode cX10_told 1 = .ok (.tableswitch 129 0 12 #[67, 72, 77, 82, 87, 92, 97, 102, 129, 129, 111, 117, 123], 67) := by decide +kernel
theorem dX10_told_68 : decode cX10_told 68 = .ok (.aload_n 1, 1) := by decide +kernel
theorem dX10_told_69 : decode cX10_told 69 = .ok (.invokevirtual 278, 3) := by decide +kernel
theorem dX10_told_72 : decode cX10_told 72 = .ok (.ireturn, 1) := by decide +kernel
theorem dX10_told_73 : decode cX10_told 73 = .ok (.aload_n 1, 1) := by decide +kernel
theorem dX10_told_74 : decode cX10_told 74 = .ok (.getfield 197, 3) := by decide +kernel
theorem dX10_told_77 : decode cX10_told 77 = .ok (.ireturn, 1) := by decide +kernel
theorem dX10_told_78 : decode cX10_told 78 = .ok (.aload_n 1, 1) := by decide +kernel
theorem dX10_told_79 : decode cX10_told 79 = .ok (.invokevirtual 194, 3) := by decide +kernel
theorem dX10_told_82 : decode cX10_told 82 = .ok (.ireturn, 1) := by decide +kernel
theorem dX10_told_83 : decode cX10_told 83 = .ok (.aload_n 1, 1) := by decide +kernel
theorem dX10_told_84 : decode cX10_told 84 = .ok (.getfield 281, 3) := by decide +kernel
theorem dX10_told_87 : decode cX10_told 87 = .ok (.ireturn, 1) := by decide +kernel
theorem dX10_told_88 : decode cX10_told 88 = .ok (.aload_n 1, 1) := by decide +kernel
theorem dX10_told_89 : decode cX10_told 89 = .ok (.getfield 284, 3) := by decide +kernel
theorem dX10_told_92 : decode cX10_told 92 = .ok (.ireturn, 1) := by decide +kernel
theorem dX10_told_93 : decode cX10_told 93 = .ok (.aload_n 1, 1) := by decide +kernel
theorem dX10_told_94 : decode cX10_told 94 = .ok (.getfield 126, 3) := by decide +kernel
theorem dX10_told_97 : decode cX10_told 97 = .ok (.ireturn, 1) := by decide +kernel
theorem dX10_told_98 : decode cX10_told 98 = .ok (.aload_n 1, 1) := by decide +kernel
theorem dX10_told_99 : decode cX10_told 99 = .ok (.getfield 287, 3) := by decide +kernel
theorem dX10_told_102 : decode cX10_told 102 = .ok (.ireturn, 1) := by decide +kernel
theorem dX10_told_103 : decode cX10_told 103 = .ok (.aload_n 1, 1) := by decide +kernel
theorem dX10_told_104 : decode cX10_told 104 = .ok (.aload_n 0, 1) := by decide +kernel
theorem dX10_told_105 : decode cX10_told 105 = .ok (.getfield 65, 3) := by decide +kernel
theorem dX10_told_108 : decode cX10_told 108 = .ok (.invokevirtual 160, 3) := by decide +kernel
theorem dX10_told_111 : decode cX10_told 111 = .ok (.ireturn, 1) := by decide +kernel
theorem dX10_told_112 : decode cX10_told 112 = .ok (.aload_n 1, 1) := by decide +kernel
theorem dX10_told_113 : decode cX10_told 113 = .ok (.iconst 0, 1) := by decide +kernel
theorem dX10_told_114 : decode cX10_told 114 = .ok (.invokevirtual 200, 3) := by decide +kernel
theorem dX10_told_117 : decode cX10_told 117 = .ok (.ireturn, 1) := by decide +kernel
theorem dX10_told_118 : decode cX10_told 118 = .ok (.aload_n 1, 1) := by decide +kernel
theorem dX10_told_119 : decode cX10_told 119 = .ok (.iconst 1, 1) := by decide +kernel
theorem dX10_told_120 : decode cX10_told 120 = .ok (.invokevirtual 200, 3) := by decide +kernel
theorem dX10_told_123 : decode cX10_told 123 = .ok (.ireturn, 1) := by decide +kernel
theorem dX10_told_124 : decode cX10_told 124 = .ok (.aload_n 1, 1) := by decide +kernel
theorem dX10_told_125 : decode cX10_told 125 = .ok (.iconst 2, 1) := by decide +kernel
theorem dX10_told_126 : decode cX10_told 126 = .ok (.invokevirtual 200, 3) := by decide +kernel
theorem dX10_told_129 : decode cX10_told 129 = .ok (.ireturn, 1) := by decide +kernel
theorem dX10_told_130 : decode cX10_told 130 = .ok (.bipush (-102), 2) := by decide +kernel
theorem dX10_told_132 : decode cX10_told 132 = .ok (.ireturn, 1) := by decide +kernel
theorem dX10_openTable_0 : decode cX10_openTable 0 = .ok (.aload_n 0, 1) := by decide +kernel
theorem dX10_openTable_1 : decode cX10_openTable 1 = .ok (.getfield 47, 3) := by decide +kernel
theorem dX10_openTable_4 : decode cX10_openTable 4 = .ok (.iload_n 1, 1) := by decide +kernel
theorem dX10_openTable_5 : decode cX10_openTable 5 = .ok (.iload_n 2, 1) := by decide +kernel
theorem dX10_openTable_6 : decode cX10_openTable 6 = .ok (.iload_n 3, 1) := by decide +kernel
theorem dX10_openTable_7 : decode cX10_openTable 7 = .ok (.aload_n 0, 1) := by decide +kernel
theorem dX10_openTable_8 : decode cX10_openTable 8 = .ok (.getfield 26, 3) := by decide +kernel
theorem dX10_openTable_11 : decode cX10_openTable 11 = .ok (.invokevirtual 100, 3) := by decide +kernel
theorem dX10_openTable_14 : decode cX10_openTable 14 = .ok (.invokevirtual 290, 3) := by decide +kernel
theorem dX10_openTable_17 : decode cX10_openTable 17 = .ok (.iconst 0, 1) := by decide +kernel
theorem dX10_openTable_18 : decode cX10_openTable 18 = .ok (.istore 5, 2) := by decide +kernel
theorem dX10_openTable_20 : decode cX10_openTable 20 = .ok (.iload 5, 2) := by decide +kernel
theorem dX10_openTable_22 : decode cX10_openTable 22 = .ok (.aload_n 0, 1) := by decide +kernel
theorem dX10_openTable_23 : decode cX10_openTable 23 = .ok (.getfield 26, 3) := by decide +kernel
theorem dX10_openTable_26 : decode cX10_openTable 26 = .ok (.invokevirtual 100, 3) := by decide +kernel
theorem dX10_openTable_29 : decode cX10_openTable 29 = .ok (.if_icmp .ge 65, 3) := by decide +kernel
theorem dX10_openTable_32 : decode cX10_openTable 32 = .ok (.aload_n 0, 1) := by decide +kernel
theorem dX10_openTable_33 : decode cX10_openTable 33 = .ok (.getfield 26, 3) := by decide +kernel
theorem dX10_openTable_36 : decode cX10_openTable 36 = .ok (.iload 5, 2) := by decide +kernel
theorem dX10_openTable_38 : decode cX10_openTable 38 = .ok (.invokevirtual 112, 3) := by decide +kernel
theorem dX10_openTable_41 : decode cX10_openTable 41 = .ok (.checkcast 116, 3) := by decide +kernel
theorem dX10_openTable_44 : decode cX10_openTable 44 = .ok (.astore 6, 2) := by decide +kernel
theorem dX10_openTable_46 : decode cX10_openTable 46 = .ok (.aload 6, 2) := by decide +kernel
theorem dX10_openTable_48 : decode cX10_openTable 48 = .ok (.getfield 287, 3) := by decide +kernel
theorem dX10_openTable_51 : decode cX10_openTable 51 = .ok (.iload 4, 2) := by decide +kernel
theorem dX10_openTable_53 : decode cX10_openTable 53 = .ok (.if_icmp .lt 26, 3) := by decide +kernel
theorem dX10_openTable_56 : decode cX10_openTable 56 = .ok (.aload_n 0, 1) := by decide +kernel
theorem dX10_openTable_57 : decode cX10_openTable 57 = .ok (.getfield 47, 3) := by decide +kernel
theorem dX10_openTable_60 : decode cX10_openTable 60 = .ok (.iload 5, 2) := by decide +kernel
theorem dX10_openTable_62 : decode cX10_openTable 62 = .ok (.aload 6, 2) := by decide +kernel
theorem dX10_openTable_64 : decode cX10_openTable 64 = .ok (.aload 6, 2) := by decide +kernel
theorem dX10_openTable_66 : decode cX10_openTable 66 = .ok (.getfield 126, 3) := by decide +kernel
theorem dX10_openTable_69 : decode cX10_openTable 69 = .ok (.aload_n 0, 1) := by decide +kernel
theorem dX10_openTable_70 : decode cX10_openTable 70 = .ok (.getfield 65, 3) := by decide +kernel
theorem dX10_openTable_73 : decode cX10_openTable 73 = .ok (.invokevirtual 186, 3) := by decide +kernel
theorem dX10_openTable_76 : decode cX10_openTable 76 = .ok (.goto 12, 3) := by decide +kernel
theorem dX10_openTable_79 : decode cX10_openTable 79 = .ok (.aload_n 0, 1) := by decide +kernel
theorem dX10_openTable_80 : decode cX10_openTable 80 = .ok (.getfield 47, 3) := by decide +kernel
theorem dX10_openTable_83 : decode cX10_openTable 83 = .ok (.iload 5, 2) := by decide +kernel
theorem dX10_openTable_85 : decode cX10_openTable 85 = .ok (.invokevirtual 229, 3) := by decide +kernel
theorem dX10_openTable_88 : decode cX10_openTable 88 = .ok (.iinc 5 1, 3) := by decide +kernel
theorem dX10_openTable_91 : decode cX10_openTable 91 = .ok (.goto (-71), 3) := by decide +kernel
theorem dX10_openTable_94 : decode cX10_openTable 94 = .ok (.return_, 1) := by decide +kernel
theorem dX10_sharedDivisor_0 : decode cX10_sharedDivisor 0 = .ok (.iconst 0, 1) := by decide +kernel
theorem dX10_sharedDivisor_1 : decode cX10_sharedDivisor 1 = .ok (.istore 4, 2) := by decide +kernel
theorem dX10_sharedDivisor_3 : decode cX10_sharedDivisor 3 = .ok (.iload 4, 2) := by decide +kernel
theorem dX10_sharedDivisor_5 : decode cX10_sharedDivisor 5 = .ok (.bipush 100, 2) := by decide +kernel
theorem dX10_sharedDivisor_7 : decode cX10_sharedDivisor 7 = .ok (.if_icmp .ge 25, 3) := by decide +kernel
theorem dX10_sharedDivisor_10 : decode cX10_sharedDivisor 10 = .ok (.lload_n 2, 1) := by decide +kernel
theorem dX10_sharedDivisor_11 : decode cX10_sharedDivisor 11 = .ok (.lconst 0, 1) := by decide +kernel
theorem dX10_sharedDivisor_12 : decode cX10_sharedDivisor 12 = .ok (.lcmp, 1) := by decide +kernel
theorem dX10_sharedDivisor_13 : decode cX10_sharedDivisor 13 = .ok (.ifCond .eq 19, 3) := by decide +kernel
theorem dX10_sharedDivisor_16 : decode cX10_sharedDivisor 16 = .ok (.lload_n 0, 1) := by decide +kernel
theorem dX10_sharedDivisor_17 : decode cX10_sharedDivisor 17 = .ok (.lload_n 2, 1) := by decide +kernel
theorem dX10_sharedDivisor_18 : decode cX10_sharedDivisor 18 = .ok (.lrem, 1) := by decide +kernel
theorem dX10_sharedDivisor_19 : decode cX10_sharedDivisor 19 = .ok (.lstore 5, 2) := by decide +kernel
theorem dX10_sharedDivisor_21 : decode cX10_sharedDivisor 21 = .ok (.lload_n 2, 1) := by decide +kernel
theorem dX10_sharedDivisor_22 : decode cX10_sharedDivisor 22 = .ok (.lstore_n 0, 1) := by decide +kernel
theorem dX10_sharedDivisor_23 : decode cX10_sharedDivisor 23 = .ok (.lload 5, 2) := by decide +kernel
theorem dX10_sharedDivisor_25 : decode cX10_sharedDivisor 25 = .ok (.lstore_n 2, 1) := by decide +kernel
theorem dX10_sharedDivisor_26 : decode cX10_sharedDivisor 26 = .ok (.iinc 4 1, 3) := by decide +kernel
theorem dX10_sharedDivisor_29 : decode cX10_sharedDivisor 29 = .ok (.goto (-26), 3) := by decide +kernel
theorem dX10_sharedDivisor_32 : decode cX10_sharedDivisor 32 = .ok (.lload_n 0, 1) := by decide +kernel
theorem dX10_sharedDivisor_33 : decode cX10_sharedDivisor 33 = .ok (.lreturn, 1) := by decide +kernel
theorem dX10_minutesApart_0 : decode cX10_minutesApart 0 = .ok (.iconst 0, 1) := by decide +kernel
theorem dX10_minutesApart_1 : decode cX10_minutesApart 1 = .ok (.istore 4, 2) := by decide +kernel
theorem dX10_minutesApart_3 : decode cX10_minutesApart 3 = .ok (.iload_n 2, 1) := by decide +kernel
theorem dX10_minutesApart_4 : decode cX10_minutesApart 4 = .ok (.istore 5, 2) := by decide +kernel
theorem dX10_minutesApart_6 : decode cX10_minutesApart 6 = .ok (.iload 5, 2) := by decide +kernel
theorem dX10_minutesApart_8 : decode cX10_minutesApart 8 = .ok (.iload_n 2, 1) := by decide +kernel
theorem dX10_minutesApart_9 : decode cX10_minutesApart 9 = .ok (.iload_n 3, 1) := by decide +kernel
theorem dX10_minutesApart_10 : decode cX10_minutesApart 10 = .ok (.iadd, 1) := by decide +kernel
theorem dX10_minutesApart_11 : decode cX10_minutesApart 11 = .ok (.if_icmp .ge 22, 3) := by decide +kernel
theorem dX10_minutesApart_14 : decode cX10_minutesApart 14 = .ok (.aload_n 0, 1) := by decide +kernel
theorem dX10_minutesApart_15 : decode cX10_minutesApart 15 = .ok (.iload_n 1, 1) := by decide +kernel
theorem dX10_minutesApart_16 : decode cX10_minutesApart 16 = .ok (.iload 5, 2) := by decide +kernel
theorem dX10_minutesApart_18 : decode cX10_minutesApart 18 = .ok (.invokevirtual 293, 3) := by decide +kernel
theorem dX10_minutesApart_21 : decode cX10_minutesApart 21 = .ok (.ifCond .ne 6, 3) := by decide +kernel
theorem dX10_minutesApart_24 : decode cX10_minutesApart 24 = .ok (.iinc 4 1, 3) := by decide +kernel
theorem dX10_minutesApart_27 : decode cX10_minutesApart 27 = .ok (.iinc 5 1, 3) := by decide +kernel
theorem dX10_minutesApart_30 : decode cX10_minutesApart 30 = .ok (.goto (-24), 3) := by decide +kernel
theorem dX10_minutesApart_33 : decode cX10_minutesApart 33 = .ok (.iload 4, 2) := by decide +kernel
theorem dX10_minutesApart_35 : decode cX10_minutesApart 35 = .ok (.ireturn, 1) := by decide +kernel
theorem dX10_isJoined_0 : decode cX10_isJoined 0 = .ok (.iconst 0, 1) := by decide +kernel
theorem dX10_isJoined_1 : decode cX10_isJoined 1 = .ok (.istore_n 3, 1) := by decide +kernel
theorem dX10_isJoined_2 : decode cX10_isJoined 2 = .ok (.iload_n 3, 1) := by decide +kernel
theorem dX10_isJoined_3 : decode cX10_isJoined 3 = .ok (.aload_n 0, 1) := by decide +kernel
theorem dX10_isJoined_4 : decode cX10_isJoined 4 = .ok (.getfield 26, 3) := by decide +kernel
theorem dX10_isJoined_7 : decode cX10_isJoined 7 = .ok (.invokevirtual 100, 3) := by decide +kernel
theorem dX10_isJoined_10 : decode cX10_isJoined 10 = .ok (.if_icmp .ge 63, 3) := by decide +kernel
theorem dX10_isJoined_13 : decode cX10_isJoined 13 = .ok (.aload_n 0, 1) := by decide +kernel
theorem dX10_isJoined_14 : decode cX10_isJoined 14 = .ok (.getfield 26, 3) := by decide +kernel
theorem dX10_isJoined_17 : decode cX10_isJoined 17 = .ok (.iload_n 3, 1) := by decide +kernel
theorem dX10_isJoined_18 : decode cX10_isJoined 18 = .ok (.invokevirtual 112, 3) := by decide +kernel
theorem dX10_isJoined_21 : decode cX10_isJoined 21 = .ok (.checkcast 116, 3) := by decide +kernel
theorem dX10_isJoined_24 : decode cX10_isJoined 24 = .ok (.astore 4, 2) := by decide +kernel
theorem dX10_isJoined_26 : decode cX10_isJoined 26 = .ok (.aload 4, 2) := by decide +kernel
theorem dX10_isJoined_28 : decode cX10_isJoined 28 = .ok (.iload_n 2, 1) := by decide +kernel
theorem dX10_isJoined_29 : decode cX10_isJoined 29 = .ok (.aload 4, 2) := by decide +kernel
theorem dX10_isJoined_31 : decode cX10_isJoined 31 = .ok (.getfield 126, 3) := by decide +kernel
theorem dX10_isJoined_34 : decode cX10_isJoined 34 = .ok (.iadd, 1) := by decide +kernel
theorem dX10_isJoined_35 : decode cX10_isJoined 35 = .ok (.aload_n 0, 1) := by decide +kernel
theorem dX10_isJoined_36 : decode cX10_isJoined 36 = .ok (.getfield 65, 3) := by decide +kernel
theorem dX10_isJoined_39 : decode cX10_isJoined 39 = .ok (.invokevirtual 130, 3) := by decide +kernel
theorem dX10_isJoined_42 : decode cX10_isJoined 42 = .ok (.istore 5, 2) := by decide +kernel
theorem dX10_isJoined_44 : decode cX10_isJoined 44 = .ok (.iload 5, 2) := by decide +kernel
theorem dX10_isJoined_46 : decode cX10_isJoined 46 = .ok (.iconst (-1), 1) := by decide +kernel
theorem dX10_isJoined_47 : decode cX10_isJoined 47 = .ok (.if_icmp .eq 20, 3) := by decide +kernel
theorem dX10_isJoined_50 : decode cX10_isJoined 50 = .ok (.iload 5, 2) := by decide +kernel
theorem dX10_isJoined_52 : decode cX10_isJoined 52 = .ok (.iload_n 1, 1) := by decide +kernel
theorem dX10_isJoined_53 : decode cX10_isJoined 53 = .ok (.if_icmp .eq 12, 3) := by decide +kernel
theorem dX10_isJoined_56 : decode cX10_isJoined 56 = .ok (.aload 4, 2) := by decide +kernel
theorem dX10_isJoined_58 : decode cX10_isJoined 58 = .ok (.getfield 197, 3) := by decide +kernel
theorem dX10_isJoined_61 : decode cX10_isJoined 61 = .ok (.iload_n 1, 1) := by decide +kernel
theorem dX10_isJoined_62 : decode cX10_isJoined 62 = .ok (.if_icmp .ne 5, 3) := by decide +kernel
theorem dX10_isJoined_65 : decode cX10_isJoined 65 = .ok (.iconst 1, 1) := by decide +kernel
theorem dX10_isJoined_66 : decode cX10_isJoined 66 = .ok (.ireturn, 1) := by decide +kernel
theorem dX10_isJoined_67 : decode cX10_isJoined 67 = .ok (.iinc 3 1, 3) := by decide +kernel
theorem dX10_isJoined_70 : decode cX10_isJoined 70 = .ok (.goto (-68), 3) := by decide +kernel
theorem dX10_isJoined_73 : decode cX10_isJoined 73 = .ok (.iconst 0, 1) := by decide +kernel
theorem dX10_isJoined_74 : decode cX10_isJoined 74 = .ok (.ireturn, 1) := by decide +kernel
theorem dX10_allNotesHold_0 : decode cX10_allNotesHold 0 = .ok (.iconst 0, 1) := by decide +kernel
theorem dX10_allNotesHold_1 : decode cX10_allNotesHold 1 = .ok (.istore_n 1, 1) := by decide +kernel
theorem dX10_allNotesHold_2 : decode cX10_allNotesHold 2 = .ok (.iload_n 1, 1) := by decide +kernel
theorem dX10_allNotesHold_3 : decode cX10_allNotesHold 3 = .ok (.aload_n 0, 1) := by decide +kernel
theorem dX10_allNotesHold_4 : decode cX10_allNotesHold 4 = .ok (.getfield 33, 3) := by decide +kernel
theorem dX10_allNotesHold_7 : decode cX10_allNotesHold 7 = .ok (.invokevirtual 246, 3) := by decide +kernel
theorem dX10_allNotesHold_10 : decode cX10_allNotesHold 10 = .ok (.if_icmp .ge 80, 3) := by decide +kernel
theorem dX10_allNotesHold_13 : decode cX10_allNotesHold 13 = .ok (.aload_n 0, 1) := by decide +kernel
theorem dX10_allNotesHold_14 : decode cX10_allNotesHold 14 = .ok (.getfield 33, 3) := by decide +kernel
theorem dX10_allNotesHold_17 : decode cX10_allNotesHold 17 = .ok (.iload_n 1, 1) := by decide +kernel
theorem dX10_allNotesHold_18 : decode cX10_allNotesHold 18 = .ok (.iconst 2, 1) := by decide +kernel
theorem dX10_allNotesHold_19 : decode cX10_allNotesHold 19 = .ok (.invokevirtual 265, 3) := by decide +kernel
theorem dX10_allNotesHold_22 : decode cX10_allNotesHold 22 = .ok (.istore_n 2, 1) := by decide +kernel
theorem dX10_allNotesHold_23 : decode cX10_allNotesHold 23 = .ok (.iload_n 2, 1) := by decide +kernel
theorem dX10_allNotesHold_24 : decode cX10_allNotesHold 24 = .ok (.invokestatic 137, 3) := by decide +kernel
theorem dX10_allNotesHold_27 : decode cX10_allNotesHold 27 = .ok (.ifCond .ne 5, 3) := by decide +kernel
theorem dX10_allNotesHold_30 : decode cX10_allNotesHold 30 = .ok (.iconst 0, 1) := by decide +kernel
theorem dX10_allNotesHold_31 : decode cX10_allNotesHold 31 = .ok (.ireturn, 1) := by decide +kernel
theorem dX10_allNotesHold_32 : decode cX10_allNotesHold 32 = .ok (.aload_n 0, 1) := by decide +kernel
theorem dX10_allNotesHold_33 : decode cX10_allNotesHold 33 = .ok (.getfield 47, 3) := by decide +kernel
theorem dX10_allNotesHold_36 : decode cX10_allNotesHold 36 = .ok (.aload_n 0, 1) := by decide +kernel
theorem dX10_allNotesHold_37 : decode cX10_allNotesHold 37 = .ok (.getfield 33, 3) := by decide +kernel
theorem dX10_allNotesHold_40 : decode cX10_allNotesHold 40 = .ok (.iload_n 1, 1) := by decide +kernel
theorem dX10_allNotesHold_41 : decode cX10_allNotesHold 41 = .ok (.iconst 0, 1) := by decide +kernel
theorem dX10_allNotesHold_42 : decode cX10_allNotesHold 42 = .ok (.invokevirtual 265, 3) := by decide +kernel
theorem dX10_allNotesHold_45 : decode cX10_allNotesHold 45 = .ok (.aload_n 0, 1) := by decide +kernel
theorem dX10_allNotesHold_46 : decode cX10_allNotesHold 46 = .ok (.getfield 33, 3) := by decide +kernel
theorem dX10_allNotesHold_49 : decode cX10_allNotesHold 49 = .ok (.iload_n 1, 1) := by decide +kernel
theorem dX10_allNotesHold_50 : decode cX10_allNotesHold 50 = .ok (.iconst 1, 1) := by decide +kernel
theorem dX10_allNotesHold_51 : decode cX10_allNotesHold 51 = .ok (.invokevirtual 265, 3) := by decide +kernel
theorem dX10_allNotesHold_54 : decode cX10_allNotesHold 54 = .ok (.iconst 1, 1) := by decide +kernel
theorem dX10_allNotesHold_55 : decode cX10_allNotesHold 55 = .ok (.iload_n 2, 1) := by decide +kernel
theorem dX10_allNotesHold_56 : decode cX10_allNotesHold 56 = .ok (.ishl, 1) := by decide +kernel
theorem dX10_allNotesHold_57 : decode cX10_allNotesHold 57 = .ok (.aload_n 0, 1) := by decide +kernel
theorem dX10_allNotesHold_58 : decode cX10_allNotesHold 58 = .ok (.getfield 58, 3) := by decide +kernel
theorem dX10_allNotesHold_61 : decode cX10_allNotesHold 61 = .ok (.invokevirtual 151, 3) := by decide +kernel
theorem dX10_allNotesHold_64 : decode cX10_allNotesHold 64 = .ok (.aload_n 0, 1) := by decide +kernel
theorem dX10_allNotesHold_65 : decode cX10_allNotesHold 65 = .ok (.getfield 58, 3) := by decide +kernel
theorem dX10_allNotesHold_68 : decode cX10_allNotesHold 68 = .ok (.iload_n 2, 1) := by decide +kernel
theorem dX10_allNotesHold_69 : decode cX10_allNotesHold 69 = .ok (.iaload, 1) := by decide +kernel
theorem dX10_allNotesHold_70 : decode cX10_allNotesHold 70 = .ok (.aload_n 0, 1) := by decide +kernel
theorem dX10_allNotesHold_71 : decode cX10_allNotesHold 71 = .ok (.getfield 33, 3) := by decide +kernel
theorem dX10_allNotesHold_74 : decode cX10_allNotesHold 74 = .ok (.iload_n 1, 1) := by decide +kernel
theorem dX10_allNotesHold_75 : decode cX10_allNotesHold 75 = .ok (.iconst 3, 1) := by decide +kernel
theorem dX10_allNotesHold_76 : decode cX10_allNotesHold 76 = .ok (.invokevirtual 265, 3) := by decide +kernel
theorem dX10_allNotesHold_79 : decode cX10_allNotesHold 79 = .ok (.if_icmp .eq 5, 3) := by decide +kernel
theorem dX10_allNotesHold_82 : decode cX10_allNotesHold 82 = .ok (.iconst 0, 1) := by decide +kernel
theorem dX10_allNotesHold_83 : decode cX10_allNotesHold 83 = .ok (.ireturn, 1) := by decide +kernel
theorem dX10_allNotesHold_84 : decode cX10_allNotesHold 84 = .ok (.iinc 1 1, 3) := by decide +kernel
theorem dX10_allNotesHold_87 : decode cX10_allNotesHold 87 = .ok (.goto (-85), 3) := by decide +kernel
theorem dX10_allNotesHold_90 : decode cX10_allNotesHold 90 = .ok (.iconst 1, 1) := by decide +kernel
theorem dX10_allNotesHold_91 : decode cX10_allNotesHold 91 = .ok (.ireturn, 1) := by decide +kernel
theorem dX10_waysTogether_0 : decode cX10_waysTogether 0 = .ok (.iconst 0, 1) := by decide +kernel
theorem dX10_waysTogether_1 : decode cX10_waysTogether 1 = .ok (.istore_n 1, 1) := by decide +kernel
theorem dX10_waysTogether_2 : decode cX10_waysTogether 2 = .ok (.iconst 0, 1) := by decide +kernel
theorem dX10_waysTogether_3 : decode cX10_waysTogether 3 = .ok (.istore_n 2, 1) := by decide +kernel
theorem dX10_waysTogether_4 : decode cX10_waysTogether 4 = .ok (.iload_n 2, 1) := by decide +kernel
theorem dX10_waysTogether_5 : decode cX10_waysTogether 5 = .ok (.bipush 8, 2) := by decide +kernel
theorem dX10_waysTogether_7 : decode cX10_waysTogether 7 = .ok (.if_icmp .ge 65, 3) := by decide +kernel
theorem dX10_waysTogether_10 : decode cX10_waysTogether 10 = .ok (.aload_n 0, 1) := by decide +kernel
theorem dX10_waysTogether_11 : decode cX10_waysTogether 11 = .ok (.getfield 47, 3) := by decide +kernel
theorem dX10_waysTogether_14 : decode cX10_waysTogether 14 = .ok (.iload_n 2, 1) := by decide +kernel
theorem dX10_waysTogether_15 : decode cX10_waysTogether 15 = .ok (.iconst 0, 1) := by decide +kernel
theorem dX10_waysTogether_16 : decode cX10_waysTogether 16 = .ok (.sipush 255, 3) := by decide +kernel
theorem dX10_waysTogether_19 : decode cX10_waysTogether 19 = .ok (.aload_n 0, 1) := by decide +kernel
theorem dX10_waysTogether_20 : decode cX10_waysTogether 20 = .ok (.getfield 58, 3) := by decide +kernel
theorem dX10_waysTogether_23 : decode cX10_waysTogether 23 = .ok (.invokevirtual 151, 3) := by decide +kernel
theorem dX10_waysTogether_26 : decode cX10_waysTogether 26 = .ok (.iconst 0, 1) := by decide +kernel
theorem dX10_waysTogether_27 : decode cX10_waysTogether 27 = .ok (.istore_n 3, 1) := by decide +kernel
theorem dX10_waysTogether_28 : decode cX10_waysTogether 28 = .ok (.iload_n 3, 1) := by decide +kernel
theorem dX10_waysTogether_29 : decode cX10_waysTogether 29 = .ok (.bipush 8, 2) := by decide +kernel
theorem dX10_waysTogether_31 : decode cX10_waysTogether 31 = .ok (.if_icmp .ge 35, 3) := by decide +kernel
theorem dX10_waysTogether_34 : decode cX10_waysTogether 34 = .ok (.iload_n 1, 1) := by decide +kernel
theorem dX10_waysTogether_35 : decode cX10_waysTogether 35 = .ok (.aload_n 0, 1) := by decide +kernel
theorem dX10_waysTogether_36 : decode cX10_waysTogether 36 = .ok (.getfield 58, 3) := by decide +kernel
theorem dX10_waysTogether_39 : decode cX10_waysTogether 39 = .ok (.iload_n 3, 1) := by decide +kernel
theorem dX10_waysTogether_40 : decode cX10_waysTogether 40 = .ok (.iaload, 1) := by decide +kernel
theorem dX10_waysTogether_41 : decode cX10_waysTogether 41 = .ok (.ldc 155, 2) := by decide +kernel
theorem dX10_waysTogether_43 : decode cX10_waysTogether 43 = .ok (.if_icmp .ne 9, 3) := by decide +kernel
theorem dX10_waysTogether_46 : decode cX10_waysTogether 46 = .ok (.sipush 1000, 3) := by decide +kernel
theorem dX10_waysTogether_49 : decode cX10_waysTogether 49 = .ok (.goto 9, 3) := by decide +kernel
theorem dX10_waysTogether_52 : decode cX10_waysTogether 52 = .ok (.aload_n 0, 1) := by decide +kernel
theorem dX10_waysTogether_53 : decode cX10_waysTogether 53 = .ok (.getfield 58, 3) := by decide +kernel
theorem dX10_waysTogether_56 : decode cX10_waysTogether 56 = .ok (.iload_n 3, 1) := by decide +kernel
theorem dX10_waysTogether_57 : decode cX10_waysTogether 57 = .ok (.iaload, 1) := by decide +kernel
theorem dX10_waysTogether_58 : decode cX10_waysTogether 58 = .ok (.iadd, 1) := by decide +kernel
theorem dX10_waysTogether_59 : decode cX10_waysTogether 59 = .ok (.istore_n 1, 1) := by decide +kernel
theorem dX10_waysTogether_60 : decode cX10_waysTogether 60 = .ok (.iinc 3 1, 3) := by decide +kernel
theorem dX10_waysTogether_63 : decode cX10_waysTogether 63 = .ok (.goto (-35), 3) := by decide +kernel
theorem dX10_waysTogether_66 : decode cX10_waysTogether 66 = .ok (.iinc 2 1, 3) := by decide +kernel
theorem dX10_waysTogether_69 : decode cX10_waysTogether 69 = .ok (.goto (-65), 3) := by decide +kernel
theorem dX10_waysTogether_72 : decode cX10_waysTogether 72 = .ok (.iload_n 1, 1) := by decide +kernel
theorem dX10_waysTogether_73 : decode cX10_waysTogether 73 = .ok (.ireturn, 1) := by decide +kernel
theorem dX10_turningBridges_0 : decode cX10_turningBridges 0 = .ok (.iconst 0, 1) := by decide +kernel
theorem dX10_turningBridges_1 : decode cX10_turningBridges 1 = .ok (.istore_n 1, 1) := by decide +kernel
theorem dX10_turningBridges_2 : decode cX10_turningBridges 2 = .ok (.iconst 0, 1) := by decide +kernel
theorem dX10_turningBridges_3 : decode cX10_turningBridges 3 = .ok (.istore_n 2, 1) := by decide +kernel
theorem dX10_turningBridges_4 : decode cX10_turningBridges 4 = .ok (.iload_n 2, 1) := by decide +kernel
theorem dX10_turningBridges_5 : decode cX10_turningBridges 5 = .ok (.aload_n 0, 1) := by decide +kernel
theorem dX10_turningBridges_6 : decode cX10_turningBridges 6 = .ok (.getfield 26, 3) := by decide +kernel
theorem dX10_turningBridges_9 : decode cX10_turningBridges 9 = .ok (.invokevirtual 100, 3) := by decide +kernel
theorem dX10_turningBridges_12 : decode cX10_turningBridges 12 = .ok (.if_icmp .ge 26, 3) := by decide +kernel
theorem dX10_turningBridges_15 : decode cX10_turningBridges 15 = .ok (.aload_n 0, 1) := by decide +kernel
theorem dX10_turningBridges_16 : decode cX10_turningBridges 16 = .ok (.getfield 26, 3) := by decide +kernel
theorem dX10_turningBridges_19 : decode cX10_turningBridges 19 = .ok (.iload_n 2, 1) := by decide +kernel
theorem dX10_turningBridges_20 : decode cX10_turningBridges 20 = .ok (.invokevirtual 112, 3) := by decide +kernel
theorem dX10_turningBridges_23 : decode cX10_turningBridges 23 = .ok (.instanceof 184, 3) := by decide +kernel
theorem dX10_turningBridges_26 : decode cX10_turningBridges 26 = .ok (.ifCond .ne 6, 3) := by decide +kernel
theorem dX10_turningBridges_29 : decode cX10_turningBridges 29 = .ok (.iinc 1 1, 3) := by decide +kernel
theorem dX10_turningBridges_32 : decode cX10_turningBridges 32 = .ok (.iinc 2 1, 3) := by decide +kernel
theorem dX10_turningBridges_35 : decode cX10_turningBridges 35 = .ok (.goto (-31), 3) := by decide +kernel
theorem dX10_turningBridges_38 : decode cX10_turningBridges 38 = .ok (.iload_n 1, 1) := by decide +kernel
theorem dX10_turningBridges_39 : decode cX10_turningBridges 39 = .ok (.ireturn, 1) := by decide +kernel
theorem dX10_with_0 : decode cX10_with 0 = .ok (.ldc2_w 296, 3) := by decide +kernel
theorem dX10_with_3 : decode cX10_with 3 = .ok (.lload_n 0, 1) := by decide +kernel
theorem dX10_with_4 : decode cX10_with 4 = .ok (.lmul, 1) := by decide +kernel
theorem dX10_with_5 : decode cX10_with 5 = .ok (.lload_n 2, 1) := by decide +kernel
theorem dX10_with_6 : decode cX10_with 6 = .ok (.ladd, 1) := by decide +kernel
theorem dX10_with_7 : decode cX10_with 7 = .ok (.lreturn, 1) := by decide +kernel
theorem dX10_withBridge_0 : decode cX10_withBridge 0 = .ok (.lload_n 1, 1) := by decide +kernel
theorem dX10_withBridge_1 : decode cX10_withBridge 1 = .ok (.lstore 4, 2) := by decide +kernel
theorem dX10_withBridge_3 : decode cX10_withBridge 3 = .ok (.iconst 0, 1) := by decide +kernel
theorem dX10_withBridge_4 : decode cX10_withBridge 4 = .ok (.istore 6, 2) := by decide +kernel
theorem dX10_withBridge_6 : decode cX10_withBridge 6 = .ok (.iload 6, 2) := by decide +kernel
theorem dX10_withBridge_8 : decode cX10_withBridge 8 = .ok (.bipush 7, 2) := by decide +kernel
theorem dX10_withBridge_10 : decode cX10_withBridge 10 = .ok (.if_icmp .gt 24, 3) := by decide +kernel
theorem dX10_withBridge_13 : decode cX10_withBridge 13 = .ok (.lload 4, 2) := by decide +kernel
theorem dX10_withBridge_15 : decode cX10_withBridge 15 = .ok (.aload_n 0, 1) := by decide +kernel
theorem dX10_withBridge_16 : decode cX10_withBridge 16 = .ok (.aload_n 3, 1) := by decide +kernel
theorem dX10_withBridge_17 : decode cX10_withBridge 17 = .ok (.iload 6, 2) := by decide +kernel
theorem dX10_withBridge_19 : decode cX10_withBridge 19 = .ok (.invokevirtual 122, 3) := by decide +kernel
theorem dX10_withBridge_22 : decode cX10_withBridge 22 = .ok (.i2l, 1) := by decide +kernel
theorem dX10_withBridge_23 : decode cX10_withBridge 23 = .ok (.invokestatic 260, 3) := by decide +kernel
theorem dX10_withBridge_26 : decode cX10_withBridge 26 = .ok (.lstore 4, 2) := by decide +kernel
theorem dX10_withBridge_28 : decode cX10_withBridge 28 = .ok (.iinc 6 1, 3) := by decide +kernel
theorem dX10_withBridge_31 : decode cX10_withBridge 31 = .ok (.goto (-25), 3) := by decide +kernel
theorem dX10_withBridge_34 : decode cX10_withBridge 34 = .ok (.bipush 10, 2) := by decide +kernel
theorem dX10_withBridge_36 : decode cX10_withBridge 36 = .ok (.istore 6, 2) := by decide +kernel
theorem dX10_withBridge_38 : decode cX10_withBridge 38 = .ok (.iload 6, 2) := by decide +kernel
theorem dX10_withBridge_40 : decode cX10_withBridge 40 = .ok (.bipush 12, 2) := by decide +kernel
theorem dX10_withBridge_42 : decode cX10_withBridge 42 = .ok (.if_icmp .gt 24, 3) := by decide +kernel
theorem dX10_withBridge_45 : decode cX10_withBridge 45 = .ok (.lload 4, 2) := by decide +kernel
theorem dX10_withBridge_47 : decode cX10_withBridge 47 = .ok (.aload_n 0, 1) := by decide +kernel
theorem dX10_withBridge_48 : decode cX10_withBridge 48 = .ok (.aload_n 3, 1) := by decide +kernel
theorem dX10_withBridge_49 : decode cX10_withBridge 49 = .ok (.iload 6, 2) := by decide +kernel
theorem dX10_withBridge_51 : decode cX10_withBridge 51 = .ok (.invokevirtual 122, 3) := by decide +kernel
theorem dX10_withBridge_54 : decode cX10_withBridge 54 = .ok (.i2l, 1) := by decide +kernel
theorem dX10_withBridge_55 : decode cX10_withBridge 55 = .ok (.invokestatic 260, 3) := by decide +kernel
theorem dX10_withBridge_58 : decode cX10_withBridge 58 = .ok (.lstore 4, 2) := by decide +kernel
theorem dX10_withBridge_60 : decode cX10_withBridge 60 = .ok (.iinc 6 1, 3) := by decide +kernel
theorem dX10_withBridge_63 : decode cX10_withBridge 63 = .ok (.goto (-25), 3) := by decide +kernel
theorem dX10_withBridge_66 : decode cX10_withBridge 66 = .ok (.iconst 0, 1) := by decide +kernel
theorem dX10_withBridge_67 : decode cX10_withBridge 67 = .ok (.istore 6, 2) := by decide +kernel
theorem dX10_withBridge_69 : decode cX10_withBridge 69 = .ok (.iload 6, 2) := by decide +kernel
theorem dX10_withBridge_71 : decode cX10_withBridge 71 = .ok (.bipush 7, 2) := by decide +kernel
theorem dX10_withBridge_73 : decode cX10_withBridge 73 = .ok (.if_icmp .gt 55, 3) := by decide +kernel
theorem dX10_withBridge_76 : decode cX10_withBridge 76 = .ok (.lload 4, 2) := by decide +kernel
theorem dX10_withBridge_78 : decode cX10_withBridge 78 = .ok (.aload_n 3, 1) := by decide +kernel
theorem dX10_withBridge_79 : decode cX10_withBridge 79 = .ok (.iload 6, 2) := by decide +kernel
theorem dX10_withBridge_81 : decode cX10_withBridge 81 = .ok (.aload_n 3, 1) := by decide +kernel
theorem dX10_withBridge_82 : decode cX10_withBridge 82 = .ok (.getfield 126, 3) := by decide +kernel
theorem dX10_withBridge_85 : decode cX10_withBridge 85 = .ok (.iadd, 1) := by decide +kernel
theorem dX10_withBridge_86 : decode cX10_withBridge 86 = .ok (.aload_n 0, 1) := by decide +kernel
theorem dX10_withBridge_87 : decode cX10_withBridge 87 = .ok (.getfield 65, 3) := by decide +kernel
theorem dX10_withBridge_90 : decode cX10_withBridge 90 = .ok (.invokevirtual 130, 3) := by decide +kernel
theorem dX10_withBridge_93 : decode cX10_withBridge 93 = .ok (.i2l, 1) := by decide +kernel
theorem dX10_withBridge_94 : decode cX10_withBridge 94 = .ok (.invokestatic 260, 3) := by decide +kernel
theorem dX10_withBridge_97 : decode cX10_withBridge 97 = .ok (.lstore 4, 2) := by decide +kernel
theorem dX10_withBridge_99 : decode cX10_withBridge 99 = .ok (.lload 4, 2) := by decide +kernel
theorem dX10_withBridge_101 : decode cX10_withBridge 101 = .ok (.aload_n 3, 1) := by decide +kernel
theorem dX10_withBridge_102 : decode cX10_withBridge 102 = .ok (.iload 6, 2) := by decide +kernel
theorem dX10_withBridge_104 : decode cX10_withBridge 104 = .ok (.aload_n 3, 1) := by decide +kernel
theorem dX10_withBridge_105 : decode cX10_withBridge 105 = .ok (.getfield 126, 3) := by decide +kernel
theorem dX10_withBridge_108 : decode cX10_withBridge 108 = .ok (.iadd, 1) := by decide +kernel
theorem dX10_withBridge_109 : decode cX10_withBridge 109 = .ok (.aload_n 0, 1) := by decide +kernel
theorem dX10_withBridge_110 : decode cX10_withBridge 110 = .ok (.getfield 65, 3) := by decide +kernel
theorem dX10_withBridge_113 : decode cX10_withBridge 113 = .ok (.invokevirtual 134, 3) := by decide +kernel
theorem dX10_withBridge_116 : decode cX10_withBridge 116 = .ok (.i2l, 1) := by decide +kernel
theorem dX10_withBridge_117 : decode cX10_withBridge 117 = .ok (.invokestatic 260, 3) := by decide +kernel
theorem dX10_withBridge_120 : decode cX10_withBridge 120 = .ok (.lstore 4, 2) := by decide +kernel
theorem dX10_withBridge_122 : decode cX10_withBridge 122 = .ok (.iinc 6 7, 3) := by decide +kernel
theorem dX10_withBridge_125 : decode cX10_withBridge 125 = .ok (.goto (-56), 3) := by decide +kernel
theorem dX10_withBridge_128 : decode cX10_withBridge 128 = .ok (.lload 4, 2) := by decide +kernel
theorem dX10_withBridge_130 : decode cX10_withBridge 130 = .ok (.lreturn, 1) := by decide +kernel
theorem dJ9_floorMod_7cf53_0 : decode cJ9_floorMod_7cf53 0 = .ok (.iload_n 0, 1) := by decide +kernel
theorem dJ9_floorMod_7cf53_1 : decode cJ9_floorMod_7cf53 1 = .ok (.iload_n 1, 1) := by decide +kernel
theorem dJ9_floorMod_7cf53_2 : decode cJ9_floorMod_7cf53 2 = .ok (.irem, 1) := by decide +kernel
theorem dJ9_floorMod_7cf53_3 : decode cJ9_floorMod_7cf53 3 = .ok (.istore_n 2, 1) := by decide +kernel
theorem dJ9_floorMod_7cf53_4 : decode cJ9_floorMod_7cf53 4 = .ok (.iload_n 0, 1) := by decide +kernel
theorem dJ9_floorMod_7cf53_5 : decode cJ9_floorMod_7cf53 5 = .ok (.iload_n 1, 1) := by decide +kernel
theorem dJ9_floorMod_7cf53_6 : decode cJ9_floorMod_7cf53 6 = .ok (.ixor, 1) := by decide +kernel
theorem dJ9_floorMod_7cf53_7 : decode cJ9_floorMod_7cf53 7 = .ok (.ifCond .ge 11, 3) := by decide +kernel
theorem dJ9_floorMod_7cf53_10 : decode cJ9_floorMod_7cf53 10 = .ok (.iload_n 2, 1) := by decide +kernel
theorem dJ9_floorMod_7cf53_11 : decode cJ9_floorMod_7cf53 11 = .ok (.ifCond .eq 7, 3) := by decide +kernel
theorem dJ9_floorMod_7cf53_14 : decode cJ9_floorMod_7cf53 14 = .ok (.iload_n 2, 1) := by decide +kernel
theorem dJ9_floorMod_7cf53_15 : decode cJ9_floorMod_7cf53 15 = .ok (.iload_n 1, 1) := by decide +kernel
theorem dJ9_floorMod_7cf53_16 : decode cJ9_floorMod_7cf53 16 = .ok (.iadd, 1) := by decide +kernel
theorem dJ9_floorMod_7cf53_17 : decode cJ9_floorMod_7cf53 17 = .ok (.ireturn, 1) := by decide +kernel
theorem dJ9_floorMod_7cf53_18 : decode cJ9_floorMod_7cf53 18 = .ok (.iload_n 2, 1) := by decide +kernel
theorem dJ9_floorMod_7cf53_19 : decode cJ9_floorMod_7cf53 19 = .ok (.ireturn, 1) := by decide +kernel
theorem dJ9_max_7cf53_0 : decode cJ9_max_7cf53 0 = .ok (.iload_n 0, 1) := by decide +kernel
theorem dJ9_max_7cf53_1 : decode cJ9_max_7cf53 1 = .ok (.iload_n 1, 1) := by decide +kernel
theorem dJ9_max_7cf53_2 : decode cJ9_max_7cf53 2 = .ok (.if_icmp .lt 7, 3) := by decide +kernel
theorem dJ9_max_7cf53_5 : decode cJ9_max_7cf53 5 = .ok (.iload_n 0, 1) := by decide +kernel
theorem dJ9_max_7cf53_6 : decode cJ9_max_7cf53 6 = .ok (.goto 4, 3) := by decide +kernel
theorem dJ9_max_7cf53_9 : decode cJ9_max_7cf53 9 = .ok (.iload_n 1, 1) := by decide +kernel
theorem dJ9_max_7cf53_10 : decode cJ9_max_7cf53 10 = .ok (.ireturn, 1) := by decide +kernel
theorem dJ9_min_7cf53_0 : decode cJ9_min_7cf53 0 = .ok (.iload_n 0, 1) := by decide +kernel
theorem dJ9_min_7cf53_1 : decode cJ9_min_7cf53 1 = .ok (.iload_n 1, 1) := by decide +kernel
theorem dJ9_min_7cf53_2 : decode cJ9_min_7cf53 2 = .ok (.if_icmp .gt 7, 3) := by decide +kernel
theorem dJ9_min_7cf53_5 : decode cJ9_min_7cf53 5 = .ok (.iload_n 0, 1) := by decide +kernel
theorem dJ9_min_7cf53_6 : decode cJ9_min_7cf53 6 = .ok (.goto 4, 3) := by decide +kernel
theorem dJ9_min_7cf53_9 : decode cJ9_min_7cf53 9 = .ok (.iload_n 1, 1) := by decide +kernel
theorem dJ9_min_7cf53_10 : decode cJ9_min_7cf53 10 = .ok (.ireturn, 1) := by decide +kernel
theorem dJxa1e45_init_da8c8_0 : decode cJxa1e45_init_da8c8 0 = .ok (.aload_n 0, 1) := by decide +kernel
theorem dJxa1e45_init_da8c8_1 : decode cJxa1e45_init_da8c8 1 = .ok (.invokespecial 1, 3) := by decide +kernel
theorem dJxa1e45_init_da8c8_4 : decode cJxa1e45_init_da8c8 4 = .ok (.return_, 1) := by decide +kernel
theorem dJxc12de_init_da8c8_0 : decode cJxc12de_init_da8c8 0 = .ok (.aload_n 0, 1) := by decide +kernel
theorem dJxc12de_init_da8c8_1 : decode cJxc12de_init_da8c8 1 = .ok (.invokespecial 1, 3) := by decide +kernel
theorem dJxc12de_init_da8c8_4 : decode cJxc12de_init_da8c8 4 = .ok (.aload_n 0, 1) := by decide +kernel
theorem dJxc12de_init_da8c8_5 : decode cJxc12de_init_da8c8 5 = .ok (.iconst 0, 1) := by decide +kernel
theorem dJxc12de_init_da8c8_6 : decode cJxc12de_init_da8c8 6 = .ok (.putfield 7, 3) := by decide +kernel
theorem dJxc12de_init_da8c8_9 : decode cJxc12de_init_da8c8 9 = .ok (.return_, 1) := by decide +kernel
theorem dJx4a65c_init_da8c8_0 : decode cJx4a65c_init_da8c8 0 = .ok (.aload_n 0, 1) := by decide +kernel
theorem dJx4a65c_init_da8c8_1 : decode cJx4a65c_init_da8c8 1 = .ok (.invokespecial 1, 3) := by decide +kernel
theorem dJx4a65c_init_da8c8_4 : decode cJx4a65c_init_da8c8 4 = .ok (.aload_n 0, 1) := by decide +kernel
theorem dJx4a65c_init_da8c8_5 : decode cJx4a65c_init_da8c8 5 = .ok (.getstatic 39, 3) := by decide +kernel
theorem dJx4a65c_init_da8c8_8 : decode cJx4a65c_init_da8c8 8 = .ok (.putfield 9, 3) := by decide +kernel
theorem dJx4a65c_init_da8c8_11 : decode cJx4a65c_init_da8c8 11 = .ok (.return_, 1) := by decide +kernel
theorem dJx4a65c_grow_92f84_0 : decode cJx4a65c_grow_92f84 0 = .ok (.aload_n 0, 1) := by decide +kernel
theorem dJx4a65c_grow_92f84_1 : decode cJx4a65c_grow_92f84 1 = .ok (.getfield 9, 3) := by decide +kernel
theorem dJx4a65c_grow_92f84_4 : decode cJx4a65c_grow_92f84 4 = .ok (.arraylength, 1) := by decide +kernel
theorem dJx4a65c_grow_92f84_5 : decode cJx4a65c_grow_92f84 5 = .ok (.istore_n 2, 1) := by decide +kernel
theorem dJx4a65c_grow_92f84_6 : decode cJx4a65c_grow_92f84 6 = .ok (.iload_n 2, 1) := by decide +kernel
theorem dJx4a65c_grow_92f84_7 : decode cJx4a65c_grow_92f84 7 = .ok (.ifCond .gt 13, 3) := by decide +kernel
theorem dJx4a65c_grow_92f84_10 : decode cJx4a65c_grow_92f84 10 = .ok (.aload_n 0, 1) := by decide +kernel
theorem dJx4a65c_grow_92f84_11 : decode cJx4a65c_grow_92f84 11 = .ok (.getfield 9, 3) := by decide +kernel
theorem dJx4a65c_grow_92f84_14 : decode cJx4a65c_grow_92f84 14 = .ok (.getstatic 39, 3) := by decide +kernel
theorem dJx4a65c_grow_92f84_17 : decode cJx4a65c_grow_92f84 17 = .ok (.if_acmp .eq 28, 3) := by decide +kernel
theorem dJx4a65c_grow_92f84_20 : decode cJx4a65c_grow_92f84 20 = .ok (.iload_n 2, 1) := by decide +kernel
theorem dJx4a65c_grow_92f84_21 : decode cJx4a65c_grow_92f84 21 = .ok (.iload_n 1, 1) := by decide +kernel
theorem dJx4a65c_grow_92f84_22 : decode cJx4a65c_grow_92f84 22 = .ok (.iload_n 2, 1) := by decide +kernel
theorem dJx4a65c_grow_92f84_23 : decode cJx4a65c_grow_92f84 23 = .ok (.isub, 1) := by decide +kernel
theorem dJx4a65c_grow_92f84_24 : decode cJx4a65c_grow_92f84 24 = .ok (.iload_n 2, 1) := by decide +kernel
theorem dJx4a65c_grow_92f84_25 : decode cJx4a65c_grow_92f84 25 = .ok (.iconst 1, 1) := by decide +kernel
theorem dJx4a65c_grow_92f84_26 : decode cJx4a65c_grow_92f84 26 = .ok (.ishr, 1) := by decide +kernel
theorem dJx4a65c_grow_92f84_27 : decode cJx4a65c_grow_92f84 27 = .ok (.invokestatic 73, 3) := by decide +kernel
theorem dJx4a65c_grow_92f84_30 : decode cJx4a65c_grow_92f84 30 = .ok (.istore_n 3, 1) := by decide +kernel
theorem dJx4a65c_grow_92f84_31 : decode cJx4a65c_grow_92f84 31 = .ok (.aload_n 0, 1) := by decide +kernel
theorem dJx4a65c_grow_92f84_32 : decode cJx4a65c_grow_92f84 32 = .ok (.aload_n 0, 1) := by decide +kernel
theorem dJx4a65c_grow_92f84_33 : decode cJx4a65c_grow_92f84 33 = .ok (.getfield 9, 3) := by decide +kernel
theorem dJx4a65c_grow_92f84_36 : decode cJx4a65c_grow_92f84 36 = .ok (.iload_n 3, 1) := by decide +kernel
theorem dJx4a65c_grow_92f84_37 : decode cJx4a65c_grow_92f84 37 = .ok (.invokestatic 66, 3) := by decide +kernel
theorem dJx4a65c_grow_92f84_40 : decode cJx4a65c_grow_92f84 40 = .ok (.dup_x1, 1) := by decide +kernel
theorem dJx4a65c_grow_92f84_41 : decode cJx4a65c_grow_92f84 41 = .ok (.putfield 9, 3) := by decide +kernel
theorem dJx4a65c_grow_92f84_44 : decode cJx4a65c_grow_92f84 44 = .ok (.areturn, 1) := by decide +kernel
theorem dJx4a65c_grow_92f84_45 : decode cJx4a65c_grow_92f84 45 = .ok (.aload_n 0, 1) := by decide +kernel
theorem dJx4a65c_grow_92f84_46 : decode cJx4a65c_grow_92f84 46 = .ok (.bipush 10, 2) := by decide +kernel
theorem dJx4a65c_grow_92f84_48 : decode cJx4a65c_grow_92f84 48 = .ok (.iload_n 1, 1) := by decide +kernel
theorem dJx4a65c_grow_92f84_49 : decode cJx4a65c_grow_92f84 49 = .ok (.invokestatic 79, 3) := by decide +kernel
theorem dJx4a65c_grow_92f84_52 : decode cJx4a65c_grow_92f84 52 = .ok (.anewarray 7, 3) := by decide +kernel
theorem dJx4a65c_grow_92f84_55 : decode cJx4a65c_grow_92f84 55 = .ok (.dup_x1, 1) := by decide +kernel
theorem dJx4a65c_grow_92f84_56 : decode cJx4a65c_grow_92f84 56 = .ok (.putfield 9, 3) := by decide +kernel
theorem dJx4a65c_grow_92f84_59 : decode cJx4a65c_grow_92f84 59 = .ok (.areturn, 1) := by decide +kernel
theorem dJx4a65c_grow_d5877_0 : decode cJx4a65c_grow_d5877 0 = .ok (.aload_n 0, 1) := by decide +kernel
theorem dJx4a65c_grow_d5877_1 : decode cJx4a65c_grow_d5877 1 = .ok (.aload_n 0, 1) := by decide +kernel
theorem dJx4a65c_grow_d5877_2 : decode cJx4a65c_grow_d5877 2 = .ok (.getfield 48, 3) := by decide +kernel
theorem dJx4a65c_grow_d5877_5 : decode cJx4a65c_grow_d5877 5 = .ok (.iconst 1, 1) := by decide +kernel
theorem dJx4a65c_grow_d5877_6 : decode cJx4a65c_grow_d5877 6 = .ok (.iadd, 1) := by decide +kernel
theorem dJx4a65c_grow_d5877_7 : decode cJx4a65c_grow_d5877 7 = .ok (.invokevirtual 69, 3) := by decide +kernel
theorem dJx4a65c_grow_d5877_10 : decode cJx4a65c_grow_d5877 10 = .ok (.areturn, 1) := by decide +kernel
theorem dJx4a65c_size_8abf5_0 : decode cJx4a65c_size_8abf5 0 = .ok (.aload_n 0, 1) := by decide +kernel
theorem dJx4a65c_size_8abf5_1 : decode cJx4a65c_size_8abf5 1 = .ok (.getfield 48, 3) := by decide +kernel
theorem dJx4a65c_size_8abf5_4 : decode cJx4a65c_size_8abf5 4 = .ok (.ireturn, 1) := by decide +kernel
theorem dJx4a65c_elementData_915e3_0 : decode cJx4a65c_elementData_915e3 0 = .ok (.aload_n 0, 1) := by decide +kernel
theorem dJx4a65c_elementData_915e3_1 : decode cJx4a65c_elementData_915e3 1 = .ok (.getfield 9, 3) := by decide +kernel
theorem dJx4a65c_elementData_915e3_4 : decode cJx4a65c_elementData_915e3 4 = .ok (.iload_n 1, 1) := by decide +kernel
theorem dJx4a65c_elementData_915e3_5 : decode cJx4a65c_elementData_915e3 5 = .ok (.aaload, 1) := by decide +kernel
theorem dJx4a65c_elementData_915e3_6 : decode cJx4a65c_elementData_915e3 6 = .ok (.areturn, 1) := by decide +kernel
theorem dJx4a65c_get_915e3_0 : decode cJx4a65c_get_915e3 0 = .ok (.iload_n 1, 1) := by decide +kernel
theorem dJx4a65c_get_915e3_1 : decode cJx4a65c_get_915e3 1 = .ok (.aload_n 0, 1) := by decide +kernel
theorem dJx4a65c_get_915e3_2 : decode cJx4a65c_get_915e3 2 = .ok (.getfield 48, 3) := by decide +kernel
theorem dJx4a65c_get_915e3_5 : decode cJx4a65c_get_915e3 5 = .ok (.invokestatic 118, 3) := by decide +kernel
theorem dJx4a65c_get_915e3_8 : decode cJx4a65c_get_915e3 8 = .ok (.pop, 1) := by decide +kernel
theorem dJx4a65c_get_915e3_9 : decode cJx4a65c_get_915e3 9 = .ok (.aload_n 0, 1) := by decide +kernel
theorem dJx4a65c_get_915e3_10 : decode cJx4a65c_get_915e3 10 = .ok (.iload_n 1, 1) := by decide +kernel
theorem dJx4a65c_get_915e3_11 : decode cJx4a65c_get_915e3 11 = .ok (.invokevirtual 123, 3) := by decide +kernel
theorem dJx4a65c_get_915e3_14 : decode cJx4a65c_get_915e3 14 = .ok (.areturn, 1) := by decide +kernel
theorem dJx4a65c_add_72be8_0 : decode cJx4a65c_add_72be8 0 = .ok (.iload_n 3, 1) := by decide +kernel
theorem dJx4a65c_add_72be8_1 : decode cJx4a65c_add_72be8 1 = .ok (.aload_n 2, 1) := by decide +kernel
theorem dJx4a65c_add_72be8_2 : decode cJx4a65c_add_72be8 2 = .ok (.arraylength, 1) := by decide +kernel
theorem dJx4a65c_add_72be8_3 : decode cJx4a65c_add_72be8 3 = .ok (.if_icmp .ne 8, 3) := by decide +kernel
theorem dJx4a65c_add_72be8_6 : decode cJx4a65c_add_72be8 6 = .ok (.aload_n 0, 1) := by decide +kernel
theorem dJx4a65c_add_72be8_7 : decode cJx4a65c_add_72be8 7 = .ok (.invokevirtual 129, 3) := by decide +kernel
theorem dJx4a65c_add_72be8_10 : decode cJx4a65c_add_72be8 10 = .ok (.astore_n 2, 1) := by decide +kernel
theorem dJx4a65c_add_72be8_11 : decode cJx4a65c_add_72be8 11 = .ok (.aload_n 2, 1) := by decide +kernel
theorem dJx4a65c_add_72be8_12 : decode cJx4a65c_add_72be8 12 = .ok (.iload_n 3, 1) := by decide +kernel
theorem dJx4a65c_add_72be8_13 : decode cJx4a65c_add_72be8 13 = .ok (.aload_n 1, 1) := by decide +kernel
theorem dJx4a65c_add_72be8_14 : decode cJx4a65c_add_72be8 14 = .ok (.aastore, 1) := by decide +kernel
theorem dJx4a65c_add_72be8_15 : decode cJx4a65c_add_72be8 15 = .ok (.aload_n 0, 1) := by decide +kernel
theorem dJx4a65c_add_72be8_16 : decode cJx4a65c_add_72be8 16 = .ok (.iload_n 3, 1) := by decide +kernel
theorem dJx4a65c_add_72be8_17 : decode cJx4a65c_add_72be8 17 = .ok (.iconst 1, 1) := by decide +kernel
theorem dJx4a65c_add_72be8_18 : decode cJx4a65c_add_72be8 18 = .ok (.iadd, 1) := by decide +kernel
theorem dJx4a65c_add_72be8_19 : decode cJx4a65c_add_72be8 19 = .ok (.putfield 48, 3) := by decide +kernel
theorem dJx4a65c_add_72be8_22 : decode cJx4a65c_add_72be8 22 = .ok (.return_, 1) := by decide +kernel
theorem dJx4a65c_add_9ea2d_0 : decode cJx4a65c_add_9ea2d 0 = .ok (.aload_n 0, 1) := by decide +kernel
theorem dJx4a65c_add_9ea2d_1 : decode cJx4a65c_add_9ea2d 1 = .ok (.dup, 1) := by decide +kernel
theorem dJx4a65c_add_9ea2d_2 : decode cJx4a65c_add_9ea2d 2 = .ok (.getfield 63, 3) := by decide +kernel
theorem dJx4a65c_add_9ea2d_5 : decode cJx4a65c_add_9ea2d 5 = .ok (.iconst 1, 1) := by decide +kernel
theorem dJx4a65c_add_9ea2d_6 : decode cJx4a65c_add_9ea2d 6 = .ok (.iadd, 1) := by decide +kernel
theorem dJx4a65c_add_9ea2d_7 : decode cJx4a65c_add_9ea2d 7 = .ok (.putfield 63, 3) := by decide +kernel
theorem dJx4a65c_add_9ea2d_10 : decode cJx4a65c_add_9ea2d 10 = .ok (.aload_n 0, 1) := by decide +kernel
theorem dJx4a65c_add_9ea2d_11 : decode cJx4a65c_add_9ea2d 11 = .ok (.aload_n 1, 1) := by decide +kernel
theorem dJx4a65c_add_9ea2d_12 : decode cJx4a65c_add_9ea2d 12 = .ok (.aload_n 0, 1) := by decide +kernel
theorem dJx4a65c_add_9ea2d_13 : decode cJx4a65c_add_9ea2d 13 = .ok (.getfield 9, 3) := by decide +kernel
theorem dJx4a65c_add_9ea2d_16 : decode cJx4a65c_add_9ea2d 16 = .ok (.aload_n 0, 1) := by decide +kernel
theorem dJx4a65c_add_9ea2d_17 : decode cJx4a65c_add_9ea2d 17 = .ok (.getfield 48, 3) := by decide +kernel
theorem dJx4a65c_add_9ea2d_20 : decode cJx4a65c_add_9ea2d 20 = .ok (.invokevirtual 131, 3) := by decide +kernel
theorem dJx4a65c_add_9ea2d_23 : decode cJx4a65c_add_9ea2d 23 = .ok (.iconst 1, 1) := by decide +kernel
theorem dJx4a65c_add_9ea2d_24 : decode cJx4a65c_add_9ea2d 24 = .ok (.ireturn, 1) := by decide +kernel
theorem dJx4a65c_remove_915e3_0 : decode cJx4a65c_remove_915e3 0 = .ok (.iload_n 1, 1) := by decide +kernel
theorem dJx4a65c_remove_915e3_1 : decode cJx4a65c_remove_915e3 1 = .ok (.aload_n 0, 1) := by decide +kernel
theorem dJx4a65c_remove_915e3_2 : decode cJx4a65c_remove_915e3 2 = .ok (.getfield 48, 3) := by decide +kernel
theorem dJx4a65c_remove_915e3_5 : decode cJx4a65c_remove_915e3 5 = .ok (.invokestatic 118, 3) := by decide +kernel
theorem dJx4a65c_remove_915e3_8 : decode cJx4a65c_remove_915e3 8 = .ok (.pop, 1) := by decide +kernel
theorem dJx4a65c_remove_915e3_9 : decode cJx4a65c_remove_915e3 9 = .ok (.aload_n 0, 1) := by decide +kernel
theorem dJx4a65c_remove_915e3_10 : decode cJx4a65c_remove_915e3 10 = .ok (.getfield 9, 3) := by decide +kernel
theorem dJx4a65c_remove_915e3_13 : decode cJx4a65c_remove_915e3 13 = .ok (.astore_n 2, 1) := by decide +kernel
theorem dJx4a65c_remove_915e3_14 : decode cJx4a65c_remove_915e3 14 = .ok (.aload_n 2, 1) := by decide +kernel
theorem dJx4a65c_remove_915e3_15 : decode cJx4a65c_remove_915e3 15 = .ok (.iload_n 1, 1) := by decide +kernel
theorem dJx4a65c_remove_915e3_16 : decode cJx4a65c_remove_915e3 16 = .ok (.aaload, 1) := by decide +kernel
theorem dJx4a65c_remove_915e3_17 : decode cJx4a65c_remove_915e3 17 = .ok (.astore_n 3, 1) := by decide +kernel
theorem dJx4a65c_remove_915e3_18 : decode cJx4a65c_remove_915e3 18 = .ok (.aload_n 0, 1) := by decide +kernel
theorem dJx4a65c_remove_915e3_19 : decode cJx4a65c_remove_915e3 19 = .ok (.aload_n 2, 1) := by decide +kernel
theorem dJx4a65c_remove_915e3_20 : decode cJx4a65c_remove_915e3 20 = .ok (.iload_n 1, 1) := by decide +kernel
theorem dJx4a65c_remove_915e3_21 : decode cJx4a65c_remove_915e3 21 = .ok (.invokevirtual 144, 3) := by decide +kernel
theorem dJx4a65c_remove_915e3_24 : decode cJx4a65c_remove_915e3 24 = .ok (.aload_n 3, 1) := by decide +kernel
theorem dJx4a65c_remove_915e3_25 : decode cJx4a65c_remove_915e3 25 = .ok (.areturn, 1) := by decide +kernel
theorem dJx4a65c_fastRemove_b59b0_0 : decode cJx4a65c_fastRemove_b59b0 0 = .ok (.aload_n 0, 1) := by decide +kernel
theorem dJx4a65c_fastRemove_b59b0_1 : decode cJx4a65c_fastRemove_b59b0 1 = .ok (.dup, 1) := by decide +kernel
theorem dJx4a65c_fastRemove_b59b0_2 : decode cJx4a65c_fastRemove_b59b0 2 = .ok (.getfield 63, 3) := by decide +kernel
theorem dJx4a65c_fastRemove_b59b0_5 : decode cJx4a65c_fastRemove_b59b0 5 = .ok (.iconst 1, 1) := by decide +kernel
theorem dJx4a65c_fastRemove_b59b0_6 : decode cJx4a65c_fastRemove_b59b0 6 = .ok (.iadd, 1) := by decide +kernel
theorem dJx4a65c_fastRemove_b59b0_7 : decode cJx4a65c_fastRemove_b59b0 7 = .ok (.putfield 63, 3) := by decide +kernel
theorem dJx4a65c_fastRemove_b59b0_10 : decode cJx4a65c_fastRemove_b59b0 10 = .ok (.aload_n 0, 1) := by decide +kernel
theorem dJx4a65c_fastRemove_b59b0_11 : decode cJx4a65c_fastRemove_b59b0 11 = .ok (.getfield 48, 3) := by decide +kernel
theorem dJx4a65c_fastRemove_b59b0_14 : decode cJx4a65c_fastRemove_b59b0 14 = .ok (.iconst 1, 1) := by decide +kernel
theorem dJx4a65c_fastRemove_b59b0_15 : decode cJx4a65c_fastRemove_b59b0 15 = .ok (.isub, 1) := by decide +kernel
theorem dJx4a65c_fastRemove_b59b0_16 : decode cJx4a65c_fastRemove_b59b0 16 = .ok (.dup, 1) := by decide +kernel
theorem dJx4a65c_fastRemove_b59b0_17 : decode cJx4a65c_fastRemove_b59b0 17 = .ok (.istore_n 3, 1) := by decide +kernel
theorem dJx4a65c_fastRemove_b59b0_18 : decode cJx4a65c_fastRemove_b59b0 18 = .ok (.iload_n 2, 1) := by decide +kernel
theorem dJx4a65c_fastRemove_b59b0_19 : decode cJx4a65c_fastRemove_b59b0 19 = .ok (.if_icmp .le 15, 3) := by decide +kernel
theorem dJx4a65c_fastRemove_b59b0_22 : decode cJx4a65c_fastRemove_b59b0 22 = .ok (.aload_n 1, 1) := by decide +kernel
theorem dJx4a65c_fastRemove_b59b0_23 : decode cJx4a65c_fastRemove_b59b0 23 = .ok (.iload_n 2, 1) := by decide +kernel
theorem dJx4a65c_fastRemove_b59b0_24 : decode cJx4a65c_fastRemove_b59b0 24 = .ok (.iconst 1, 1) := by decide +kernel
theorem dJx4a65c_fastRemove_b59b0_25 : decode cJx4a65c_fastRemove_b59b0 25 = .ok (.iadd, 1) := by decide +kernel
theorem dJx4a65c_fastRemove_b59b0_26 : decode cJx4a65c_fastRemove_b59b0 26 = .ok (.aload_n 1, 1) := by decide +kernel
theorem dJx4a65c_fastRemove_b59b0_27 : decode cJx4a65c_fastRemove_b59b0 27 = .ok (.iload_n 2, 1) := by decide +kernel
theorem dJx4a65c_fastRemove_b59b0_28 : decode cJx4a65c_fastRemove_b59b0 28 = .ok (.iload_n 3, 1) := by decide +kernel
theorem dJx4a65c_fastRemove_b59b0_29 : decode cJx4a65c_fastRemove_b59b0 29 = .ok (.iload_n 2, 1) := by decide +kernel
theorem dJx4a65c_fastRemove_b59b0_30 : decode cJx4a65c_fastRemove_b59b0 30 = .ok (.isub, 1) := by decide +kernel
theorem dJx4a65c_fastRemove_b59b0_31 : decode cJx4a65c_fastRemove_b59b0 31 = .ok (.invokestatic 112, 3) := by decide +kernel
theorem dJx4a65c_fastRemove_b59b0_34 : decode cJx4a65c_fastRemove_b59b0 34 = .ok (.aload_n 1, 1) := by decide +kernel
theorem dJx4a65c_fastRemove_b59b0_35 : decode cJx4a65c_fastRemove_b59b0 35 = .ok (.aload_n 0, 1) := by decide +kernel
theorem dJx4a65c_fastRemove_b59b0_36 : decode cJx4a65c_fastRemove_b59b0 36 = .ok (.iload_n 3, 1) := by decide +kernel
theorem dJx4a65c_fastRemove_b59b0_37 : decode cJx4a65c_fastRemove_b59b0 37 = .ok (.dup_x1, 1) := by decide +kernel
theorem dJx4a65c_fastRemove_b59b0_38 : decode cJx4a65c_fastRemove_b59b0 38 = .ok (.putfield 48, 3) := by decide +kernel
theorem dJx4a65c_fastRemove_b59b0_41 : decode cJx4a65c_fastRemove_b59b0 41 = .ok (.aconst_null, 1) := by decide +kernel
theorem dJx4a65c_fastRemove_b59b0_42 : decode cJx4a65c_fastRemove_b59b0 42 = .ok (.aastore, 1) := by decide +kernel
theorem dJx4a65c_fastRemove_b59b0_43 : decode cJx4a65c_fastRemove_b59b0 43 = .ok (.return_, 1) := by decide +kernel
theorem dJ7_fill_53178_0 : decode cJ7_fill_53178 0 = .ok (.iconst 0, 1) := by decide +kernel
theorem dJ7_fill_53178_1 : decode cJ7_fill_53178 1 = .ok (.istore_n 2, 1) := by decide +kernel
theorem dJ7_fill_53178_2 : decode cJ7_fill_53178 2 = .ok (.aload_n 0, 1) := by decide +kernel
theorem dJ7_fill_53178_3 : decode cJ7_fill_53178 3 = .ok (.arraylength, 1) := by decide +kernel
theorem dJ7_fill_53178_4 : decode cJ7_fill_53178 4 = .ok (.istore_n 3, 1) := by decide +kernel
theorem dJ7_fill_53178_5 : decode cJ7_fill_53178 5 = .ok (.iload_n 2, 1) := by decide +kernel
theorem dJ7_fill_53178_6 : decode cJ7_fill_53178 6 = .ok (.iload_n 3, 1) := by decide +kernel
theorem dJ7_fill_53178_7 : decode cJ7_fill_53178 7 = .ok (.if_icmp .ge 13, 3) := by decide +kernel
theorem dJ7_fill_53178_10 : decode cJ7_fill_53178 10 = .ok (.aload_n 0, 1) := by decide +kernel
theorem dJ7_fill_53178_11 : decode cJ7_fill_53178 11 = .ok (.iload_n 2, 1) := by decide +kernel
theorem dJ7_fill_53178_12 : decode cJ7_fill_53178 12 = .ok (.iload_n 1, 1) := by decide +kernel
theorem dJ7_fill_53178_13 : decode cJ7_fill_53178 13 = .ok (.iastore, 1) := by decide +kernel
theorem dJ7_fill_53178_14 : decode cJ7_fill_53178 14 = .ok (.iinc 2 1, 3) := by decide +kernel
theorem dJ7_fill_53178_17 : decode cJ7_fill_53178 17 = .ok (.goto (-12), 3) := by decide +kernel
theorem dJ7_fill_53178_20 : decode cJ7_fill_53178 20 = .ok (.return_, 1) := by decide +kernel
theorem dJ7_copyOf_1904c_0 : decode cJ7_copyOf_1904c 0 = .ok (.aload_n 0, 1) := by decide +kernel
theorem dJ7_copyOf_1904c_1 : decode cJ7_copyOf_1904c 1 = .ok (.iload_n 1, 1) := by decide +kernel
theorem dJ7_copyOf_1904c_2 : decode cJ7_copyOf_1904c 2 = .ok (.aload_n 0, 1) := by decide +kernel
theorem dJ7_copyOf_1904c_3 : decode cJ7_copyOf_1904c 3 = .ok (.invokevirtual 86, 3) := by decide +kernel
theorem dJ7_copyOf_1904c_6 : decode cJ7_copyOf_1904c 6 = .ok (.invokestatic 300, 3) := by decide +kernel
theorem dJ7_copyOf_1904c_9 : decode cJ7_copyOf_1904c 9 = .ok (.areturn, 1) := by decide +kernel
theorem dJ7_copyOf_6403c_0 : decode cJ7_copyOf_6403c 0 = .ok (.aload_n 2, 1) := by decide +kernel
theorem dJ7_copyOf_6403c_1 : decode cJ7_copyOf_6403c 1 = .ok (.ldc 110, 2) := by decide +kernel
theorem dJ7_copyOf_6403c_3 : decode cJ7_copyOf_6403c 3 = .ok (.if_acmp .ne 10, 3) := by decide +kernel
theorem dJ7_copyOf_6403c_6 : decode cJ7_copyOf_6403c 6 = .ok (.iload_n 1, 1) := by decide +kernel
theorem dJ7_copyOf_6403c_7 : decode cJ7_copyOf_6403c 7 = .ok (.anewarray 2, 3) := by decide +kernel
theorem dJ7_copyOf_6403c_10 : decode cJ7_copyOf_6403c 10 = .ok (.goto 14, 3) := by decide +kernel
theorem dJ7_copyOf_6403c_13 : decode cJ7_copyOf_6403c 13 = .ok (.aload_n 2, 1) := by decide +kernel
theorem dJ7_copyOf_6403c_14 : decode cJ7_copyOf_6403c 14 = .ok (.invokevirtual 90, 3) := by decide +kernel
theorem dJ7_copyOf_6403c_17 : decode cJ7_copyOf_6403c 17 = .ok (.iload_n 1, 1) := by decide +kernel
theorem dJ7_copyOf_6403c_18 : decode cJ7_copyOf_6403c 18 = .ok (.invokestatic 95, 3) := by decide +kernel
theorem dJ7_copyOf_6403c_21 : decode cJ7_copyOf_6403c 21 = .ok (.checkcast 110, 3) := by decide +kernel
theorem dJ7_copyOf_6403c_24 : decode cJ7_copyOf_6403c 24 = .ok (.astore_n 3, 1) := by decide +kernel
theorem dJ7_copyOf_6403c_25 : decode cJ7_copyOf_6403c 25 = .ok (.aload_n 0, 1) := by decide +kernel
theorem dJ7_copyOf_6403c_26 : decode cJ7_copyOf_6403c 26 = .ok (.iconst 0, 1) := by decide +kernel
theorem dJ7_copyOf_6403c_27 : decode cJ7_copyOf_6403c 27 = .ok (.aload_n 3, 1) := by decide +kernel
theorem dJ7_copyOf_6403c_28 : decode cJ7_copyOf_6403c 28 = .ok (.iconst 0, 1) := by decide +kernel
theorem dJ7_copyOf_6403c_29 : decode cJ7_copyOf_6403c 29 = .ok (.aload_n 0, 1) := by decide +kernel
theorem dJ7_copyOf_6403c_30 : decode cJ7_copyOf_6403c 30 = .ok (.arraylength, 1) := by decide +kernel
theorem dJ7_copyOf_6403c_31 : decode cJ7_copyOf_6403c 31 = .ok (.iload_n 1, 1) := by decide +kernel
theorem dJ7_copyOf_6403c_32 : decode cJ7_copyOf_6403c 32 = .ok (.invokestatic 304, 3) := by decide +kernel
theorem dJ7_copyOf_6403c_35 : decode cJ7_copyOf_6403c 35 = .ok (.invokestatic 150, 3) := by decide +kernel
theorem dJ7_copyOf_6403c_38 : decode cJ7_copyOf_6403c 38 = .ok (.aload_n 3, 1) := by decide +kernel
theorem dJ7_copyOf_6403c_39 : decode cJ7_copyOf_6403c 39 = .ok (.areturn, 1) := by decide +kernel
theorem dJ7_copyOf_59c91_0 : decode cJ7_copyOf_59c91 0 = .ok (.iload_n 1, 1) := by decide +kernel
theorem dJ7_copyOf_59c91_1 : decode cJ7_copyOf_59c91 1 = .ok (.aload_n 0, 1) := by decide +kernel
theorem dJ7_copyOf_59c91_2 : decode cJ7_copyOf_59c91 2 = .ok (.arraylength, 1) := by decide +kernel
theorem dJ7_copyOf_59c91_3 : decode cJ7_copyOf_59c91 3 = .ok (.if_icmp .ne 11, 3) := by decide +kernel
theorem dJ7_copyOf_59c91_6 : decode cJ7_copyOf_59c91 6 = .ok (.aload_n 0, 1) := by decide +kernel
theorem dJ7_copyOf_59c91_7 : decode cJ7_copyOf_59c91 7 = .ok (.invokevirtual 316, 3) := by decide +kernel
theorem dJ7_copyOf_59c91_10 : decode cJ7_copyOf_59c91 10 = .ok (.checkcast 317, 3) := by decide +kernel
theorem dJ7_copyOf_59c91_13 : decode cJ7_copyOf_59c91 13 = .ok (.areturn, 1) := by decide +kernel
theorem dJ7_copyOf_59c91_14 : decode cJ7_copyOf_59c91 14 = .ok (.iload_n 1, 1) := by decide +kernel
theorem dJ7_copyOf_59c91_15 : decode cJ7_copyOf_59c91 15 = .ok (.newarray .int, 2) := by decide +kernel
theorem dJ7_copyOf_59c91_17 : decode cJ7_copyOf_59c91 17 = .ok (.astore_n 2, 1) := by decide +kernel
theorem dJ7_copyOf_59c91_18 : decode cJ7_copyOf_59c91 18 = .ok (.aload_n 0, 1) := by decide +kernel
theorem dJ7_copyOf_59c91_19 : decode cJ7_copyOf_59c91 19 = .ok (.iconst 0, 1) := by decide +kernel
theorem dJ7_copyOf_59c91_20 : decode cJ7_copyOf_59c91 20 = .ok (.aload_n 2, 1) := by decide +kernel
theorem dJ7_copyOf_59c91_21 : decode cJ7_copyOf_59c91 21 = .ok (.iconst 0, 1) := by decide +kernel
theorem dJ7_copyOf_59c91_22 : decode cJ7_copyOf_59c91 22 = .ok (.aload_n 0, 1) := by decide +kernel
theorem dJ7_copyOf_59c91_23 : decode cJ7_copyOf_59c91 23 = .ok (.arraylength, 1) := by decide +kernel
theorem dJ7_copyOf_59c91_24 : decode cJ7_copyOf_59c91 24 = .ok (.iload_n 1, 1) := by decide +kernel
theorem dJ7_copyOf_59c91_25 : decode cJ7_copyOf_59c91 25 = .ok (.invokestatic 304, 3) := by decide +kernel
theorem dJ7_copyOf_59c91_28 : decode cJ7_copyOf_59c91 28 = .ok (.invokestatic 150, 3) := by decide +kernel
theorem dJ7_copyOf_59c91_31 : decode cJ7_copyOf_59c91 31 = .ok (.aload_n 2, 1) := by decide +kernel
theorem dJ7_copyOf_59c91_32 : decode cJ7_copyOf_59c91 32 = .ok (.areturn, 1) := by decide +kernel
theorem dJ15_checkIndex_7cf53_0 : decode cJ15_checkIndex_7cf53 0 = .ok (.iload_n 0, 1) := by decide +kernel
theorem dJ15_checkIndex_7cf53_1 : decode cJ15_checkIndex_7cf53 1 = .ok (.iload_n 1, 1) := by decide +kernel
theorem dJ15_checkIndex_7cf53_2 : decode cJ15_checkIndex_7cf53 2 = .ok (.aconst_null, 1) := by decide +kernel
theorem dJ15_checkIndex_7cf53_3 : decode cJ15_checkIndex_7cf53 3 = .ok (.invokestatic 105, 3) := by decide +kernel
theorem dJ15_checkIndex_7cf53_6 : decode cJ15_checkIndex_7cf53 6 = .ok (.ireturn, 1) := by decide +kernel
theorem dJ8_newLength_cabcc_0 : decode cJ8_newLength_cabcc 0 = .ok (.iload_n 0, 1) := by decide +kernel
theorem dJ8_newLength_cabcc_1 : decode cJ8_newLength_cabcc 1 = .ok (.iload_n 1, 1) := by decide +kernel
theorem dJ8_newLength_cabcc_2 : decode cJ8_newLength_cabcc 2 = .ok (.iload_n 2, 1) := by decide +kernel
theorem dJ8_newLength_cabcc_3 : decode cJ8_newLength_cabcc 3 = .ok (.invokestatic 194, 3) := by decide +kernel
theorem dJ8_newLength_cabcc_6 : decode cJ8_newLength_cabcc 6 = .ok (.iadd, 1) := by decide +kernel
theorem dJ8_newLength_cabcc_7 : decode cJ8_newLength_cabcc 7 = .ok (.istore_n 3, 1) := by decide +kernel
theorem dJ8_newLength_cabcc_8 : decode cJ8_newLength_cabcc 8 = .ok (.iconst 0, 1) := by decide +kernel
theorem dJ8_newLength_cabcc_9 : decode cJ8_newLength_cabcc 9 = .ok (.iload_n 3, 1) := by decide +kernel
theorem dJ8_newLength_cabcc_10 : decode cJ8_newLength_cabcc 10 = .ok (.if_icmp .ge 11, 3) := by decide +kernel
theorem dJ8_newLength_cabcc_13 : decode cJ8_newLength_cabcc 13 = .ok (.iload_n 3, 1) := by decide +kernel
theorem dJ8_newLength_cabcc_14 : decode cJ8_newLength_cabcc 14 = .ok (.ldc 200, 2) := by decide +kernel
theorem dJ8_newLength_cabcc_16 : decode cJ8_newLength_cabcc 16 = .ok (.if_icmp .gt 5, 3) := by decide +kernel
theorem dJ8_newLength_cabcc_19 : decode cJ8_newLength_cabcc 19 = .ok (.iload_n 3, 1) := by decide +kernel
theorem dJ8_newLength_cabcc_20 : decode cJ8_newLength_cabcc 20 = .ok (.ireturn, 1) := by decide +kernel
theorem dJ8_newLength_cabcc_21 : decode cJ8_newLength_cabcc 21 = .ok (.iload_n 0, 1) := by decide +kernel
theorem dJ8_newLength_cabcc_22 : decode cJ8_newLength_cabcc 22 = .ok (.iload_n 1, 1) := by decide +kernel
theorem dJ8_newLength_cabcc_23 : decode cJ8_newLength_cabcc 23 = .ok (.invokestatic 201, 3) := by decide +kernel
theorem dJ8_newLength_cabcc_26 : decode cJ8_newLength_cabcc 26 = .ok (.ireturn, 1) := by decide +kernel
theorem dJ8_hugeLength_7cf53_0 : decode cJ8_hugeLength_7cf53 0 = .ok (.iload_n 0, 1) := by decide +kernel
theorem dJ8_hugeLength_7cf53_1 : decode cJ8_hugeLength_7cf53 1 = .ok (.iload_n 1, 1) := by decide +kernel
theorem dJ8_hugeLength_7cf53_2 : decode cJ8_hugeLength_7cf53 2 = .ok (.iadd, 1) := by decide +kernel
theorem dJ8_hugeLength_7cf53_3 : decode cJ8_hugeLength_7cf53 3 = .ok (.istore_n 2, 1) := by decide +kernel
theorem dJ8_hugeLength_7cf53_4 : decode cJ8_hugeLength_7cf53 4 = .ok (.iload_n 2, 1) := by decide +kernel
theorem dJ8_hugeLength_7cf53_5 : decode cJ8_hugeLength_7cf53 5 = .ok (.ifCond .ge 44, 3) := by decide +kernel
theorem dJ8_hugeLength_7cf53_8 : decode cJ8_hugeLength_7cf53 8 = .ok (.new 204, 3) := by decide +kernel
theorem dJ8_hugeLength_7cf53_11 : decode cJ8_hugeLength_7cf53 11 = .ok (.dup, 1) := by decide +kernel
theorem dJ8_hugeLength_7cf53_12 : decode cJ8_hugeLength_7cf53 12 = .ok (.new 89, 3) := by decide +kernel
theorem dJ8_hugeLength_7cf53_15 : decode cJ8_hugeLength_7cf53 15 = .ok (.dup, 1) := by decide +kernel
theorem dJ8_hugeLength_7cf53_16 : decode cJ8_hugeLength_7cf53 16 = .ok (.invokespecial 91, 3) := by decide +kernel
theorem dJ8_hugeLength_7cf53_19 : decode cJ8_hugeLength_7cf53 19 = .ok (.ldc 206, 2) := by decide +kernel
theorem dJ8_hugeLength_7cf53_21 : decode cJ8_hugeLength_7cf53 21 = .ok (.invokevirtual 94, 3) := by decide +kernel
theorem dJ8_hugeLength_7cf53_24 : decode cJ8_hugeLength_7cf53 24 = .ok (.iload_n 0, 1) := by decide +kernel
theorem dJ8_hugeLength_7cf53_25 : decode cJ8_hugeLength_7cf53 25 = .ok (.invokevirtual 98, 3) := by decide +kernel
theorem dJ8_hugeLength_7cf53_28 : decode cJ8_hugeLength_7cf53 28 = .ok (.ldc 208, 2) := by decide +kernel
theorem dJ8_hugeLength_7cf53_30 : decode cJ8_hugeLength_7cf53 30 = .ok (.invokevirtual 94, 3) := by decide +kernel
theorem dJ8_hugeLength_7cf53_33 : decode cJ8_hugeLength_7cf53 33 = .ok (.iload_n 1, 1) := by decide +kernel
theorem dJ8_hugeLength_7cf53_34 : decode cJ8_hugeLength_7cf53 34 = .ok (.invokevirtual 98, 3) := by decide +kernel
theorem dJ8_hugeLength_7cf53_37 : decode cJ8_hugeLength_7cf53 37 = .ok (.ldc 210, 2) := by decide +kernel
theorem dJ8_hugeLength_7cf53_39 : decode cJ8_hugeLength_7cf53 39 = .ok (.invokevirtual 94, 3) := by decide +kernel
theorem dJ8_hugeLength_7cf53_42 : decode cJ8_hugeLength_7cf53 42 = .ok (.invokevirtual 101, 3) := by decide +kernel
theorem dJ8_hugeLength_7cf53_45 : decode cJ8_hugeLength_7cf53 45 = .ok (.invokespecial 212, 3) := by decide +kernel
theorem dJ8_hugeLength_7cf53_48 : decode cJ8_hugeLength_7cf53 48 = .ok (.athrow, 1) := by decide +kernel
theorem dJ8_hugeLength_7cf53_49 : decode cJ8_hugeLength_7cf53 49 = .ok (.iload_n 2, 1) := by decide +kernel
theorem dJ8_hugeLength_7cf53_50 : decode cJ8_hugeLength_7cf53 50 = .ok (.ldc 200, 2) := by decide +kernel
theorem dJ8_hugeLength_7cf53_52 : decode cJ8_hugeLength_7cf53 52 = .ok (.if_icmp .gt 6, 3) := by decide +kernel
theorem dJ8_hugeLength_7cf53_55 : decode cJ8_hugeLength_7cf53 55 = .ok (.ldc 200, 2) := by decide +kernel
theorem dJ8_hugeLength_7cf53_57 : decode cJ8_hugeLength_7cf53 57 = .ok (.ireturn, 1) := by decide +kernel
theorem dJ8_hugeLength_7cf53_58 : decode cJ8_hugeLength_7cf53 58 = .ok (.iload_n 2, 1) := by decide +kernel
theorem dJ8_hugeLength_7cf53_59 : decode cJ8_hugeLength_7cf53 59 = .ok (.ireturn, 1) := by decide +kernel
theorem dJ3_checkIndex_8e157_0 : decode cJ3_checkIndex_8e157 0 = .ok (.iload_n 0, 1) := by decide +kernel
theorem dJ3_checkIndex_8e157_1 : decode cJ3_checkIndex_8e157 1 = .ok (.ifCond .lt 8, 3) := by decide +kernel
theorem dJ3_checkIndex_8e157_4 : decode cJ3_checkIndex_8e157 4 = .ok (.iload_n 0, 1) := by decide +kernel
theorem dJ3_checkIndex_8e157_5 : decode cJ3_checkIndex_8e157 5 = .ok (.iload_n 1, 1) := by decide +kernel
theorem dJ3_checkIndex_8e157_6 : decode cJ3_checkIndex_8e157 6 = .ok (.if_icmp .lt 10, 3) := by decide +kernel
theorem dJ3_checkIndex_8e157_9 : decode cJ3_checkIndex_8e157 9 = .ok (.aload_n 2, 1) := by decide +kernel
theorem dJ3_checkIndex_8e157_10 : decode cJ3_checkIndex_8e157 10 = .ok (.iload_n 0, 1) := by decide +kernel
theorem dJ3_checkIndex_8e157_11 : decode cJ3_checkIndex_8e157 11 = .ok (.iload_n 1, 1) := by decide +kernel
theorem dJ3_checkIndex_8e157_12 : decode cJ3_checkIndex_8e157 12 = .ok (.invokestatic 95, 3) := by decide +kernel
theorem dJ3_checkIndex_8e157_15 : decode cJ3_checkIndex_8e157 15 = .ok (.athrow, 1) := by decide +kernel
theorem dJ3_checkIndex_8e157_16 : decode cJ3_checkIndex_8e157 16 = .ok (.iload_n 0, 1) := by decide +kernel
theorem dJ3_checkIndex_8e157_17 : decode cJ3_checkIndex_8e157 17 = .ok (.ireturn, 1) := by decide +kernel
