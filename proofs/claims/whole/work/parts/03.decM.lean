theorem dX11_init_0 : decode cX11_init 0 = .ok (.aload_n 0, 1) := by decide +kernel
theorem dX11_init_1 : decode cX11_init 1 = .ok (.invokespecial 1, 3) := by decide +kernel
theorem dX11_init_4 : decode cX11_init 4 = .ok (.aload_n 0, 1) := by decide +kernel
theorem dX11_init_5 : decode cX11_init 5 = .ok (.bipush 20, 2) := by decide +kernel
theorem dX11_init_7 : decode cX11_init 7 = .ok (.newarray .int, 2) := by decide +kernel
theorem dX11_init_9 : decode cX11_init 9 = .ok (.putfield 7, 3) := by decide +kernel
theorem dX11_init_12 : decode cX11_init 12 = .ok (.aload_n 0, 1) := by decide +kernel
theorem dX11_init_13 : decode cX11_init 13 = .ok (.bipush 10, 2) := by decide +kernel
theorem dX11_init_15 : decode cX11_init 15 = .ok (.newarray .int, 2) := by decide +kernel
theorem dX11_init_17 : decode cX11_init 17 = .ok (.putfield 13, 3) := by decide +kernel
theorem dX11_init_20 : decode cX11_init 20 = .ok (.aload_n 0, 1) := by decide +kernel
theorem dX11_init_21 : decode cX11_init 21 = .ok (.bipush 100, 2) := by decide +kernel
theorem dX11_init_23 : decode cX11_init 23 = .ok (.newarray .int, 2) := by decide +kernel
theorem dX11_init_25 : decode cX11_init 25 = .ok (.putfield 16, 3) := by decide +kernel
theorem dX11_init_28 : decode cX11_init 28 = .ok (.aload_n 0, 1) := by decide +kernel
theorem dX11_init_29 : decode cX11_init 29 = .ok (.bipush 8, 2) := by decide +kernel
theorem dX11_init_31 : decode cX11_init 31 = .ok (.newarray .int, 2) := by decide +kernel
theorem dX11_init_33 : decode cX11_init 33 = .ok (.putfield 19, 3) := by decide +kernel
theorem dX11_init_36 : decode cX11_init 36 = .ok (.aload_n 0, 1) := by decide +kernel
theorem dX11_init_37 : decode cX11_init 37 = .ok (.sipush 488, 3) := by decide +kernel
theorem dX11_init_40 : decode cX11_init 40 = .ok (.newarray .int, 2) := by decide +kernel
theorem dX11_init_42 : decode cX11_init 42 = .ok (.putfield 22, 3) := by decide +kernel
theorem dX11_init_45 : decode cX11_init 45 = .ok (.aload_n 0, 1) := by decide +kernel
theorem dX11_init_46 : decode cX11_init 46 = .ok (.sipush 610, 3) := by decide +kernel
theorem dX11_init_49 : decode cX11_init 49 = .ok (.newarray .int, 2) := by decide +kernel
theorem dX11_init_51 : decode cX11_init 51 = .ok (.putfield 25, 3) := by decide +kernel
theorem dX11_init_54 : decode cX11_init 54 = .ok (.aload_n 0, 1) := by decide +kernel
theorem dX11_init_55 : decode cX11_init 55 = .ok (.sipush 610, 3) := by decide +kernel
theorem dX11_init_58 : decode cX11_init 58 = .ok (.newarray .int, 2) := by decide +kernel
theorem dX11_init_60 : decode cX11_init 60 = .ok (.putfield 28, 3) := by decide +kernel
theorem dX11_init_63 : decode cX11_init 63 = .ok (.aload_n 0, 1) := by decide +kernel
theorem dX11_init_64 : decode cX11_init 64 = .ok (.sipush 488, 3) := by decide +kernel
theorem dX11_init_67 : decode cX11_init 67 = .ok (.newarray .int, 2) := by decide +kernel
theorem dX11_init_69 : decode cX11_init 69 = .ok (.putfield 31, 3) := by decide +kernel
theorem dX11_init_72 : decode cX11_init 72 = .ok (.aload_n 0, 1) := by decide +kernel
theorem dX11_init_73 : decode cX11_init 73 = .ok (.sipush 488, 3) := by decide +kernel
theorem dX11_init_76 : decode cX11_init 76 = .ok (.newarray .int, 2) := by decide +kernel
theorem dX11_init_78 : decode cX11_init 78 = .ok (.putfield 34, 3) := by decide +kernel
theorem dX11_init_81 : decode cX11_init 81 = .ok (.aload_n 0, 1) := by decide +kernel
theorem dX11_init_82 : decode cX11_init 82 = .ok (.sipush 488, 3) := by decide +kernel
theorem dX11_init_85 : decode cX11_init 85 = .ok (.newarray .int, 2) := by decide +kernel
theorem dX11_init_87 : decode cX11_init 87 = .ok (.putfield 37, 3) := by decide +kernel
theorem dX11_init_90 : decode cX11_init 90 = .ok (.aload_n 0, 1) := by decide +kernel
theorem dX11_init_91 : decode cX11_init 91 = .ok (.bipush 8, 2) := by decide +kernel
theorem dX11_init_93 : decode cX11_init 93 = .ok (.newarray .int, 2) := by decide +kernel
theorem dX11_init_95 : decode cX11_init 95 = .ok (.putfield 40, 3) := by decide +kernel
theorem dX11_init_98 : decode cX11_init 98 = .ok (.aload_n 0, 1) := by decide +kernel
theorem dX11_init_99 : decode cX11_init 99 = .ok (.bipush 24, 2) := by decide +kernel
theorem dX11_init_101 : decode cX11_init 101 = .ok (.newarray .int, 2) := by decide +kernel
theorem dX11_init_103 : decode cX11_init 103 = .ok (.putfield 43, 3) := by decide +kernel
theorem dX11_init_106 : decode cX11_init 106 = .ok (.aload_n 0, 1) := by decide +kernel
theorem dX11_init_107 : decode cX11_init 107 = .ok (.bipush 10, 2) := by decide +kernel
theorem dX11_init_109 : decode cX11_init 109 = .ok (.newarray .int, 2) := by decide +kernel
theorem dX11_init_111 : decode cX11_init 111 = .ok (.putfield 46, 3) := by decide +kernel
theorem dX11_init_114 : decode cX11_init 114 = .ok (.aload_n 0, 1) := by decide +kernel
theorem dX11_init_115 : decode cX11_init 115 = .ok (.bipush 24, 2) := by decide +kernel
theorem dX11_init_117 : decode cX11_init 117 = .ok (.newarray .int, 2) := by decide +kernel
theorem dX11_init_119 : decode cX11_init 119 = .ok (.putfield 49, 3) := by decide +kernel
theorem dX11_init_122 : decode cX11_init 122 = .ok (.aload_n 0, 1) := by decide +kernel
theorem dX11_init_123 : decode cX11_init 123 = .ok (.iconst (-1), 1) := by decide +kernel
theorem dX11_init_124 : decode cX11_init 124 = .ok (.putfield 52, 3) := by decide +kernel
theorem dX11_init_127 : decode cX11_init 127 = .ok (.aload_n 0, 1) := by decide +kernel
theorem dX11_init_128 : decode cX11_init 128 = .ok (.iconst (-1), 1) := by decide +kernel
theorem dX11_init_129 : decode cX11_init 129 = .ok (.putfield 56, 3) := by decide +kernel
theorem dX11_init_132 : decode cX11_init 132 = .ok (.aload_n 0, 1) := by decide +kernel
theorem dX11_init_133 : decode cX11_init 133 = .ok (.iconst (-1), 1) := by decide +kernel
theorem dX11_init_134 : decode cX11_init 134 = .ok (.putfield 59, 3) := by decide +kernel
theorem dX11_init_137 : decode cX11_init 137 = .ok (.return_, 1) := by decide +kernel
theorem dX11_in_0 : decode cX11_in 0 = .ok (.lload_n 0, 1) := by decide +kernel
theorem dX11_in_1 : decode cX11_in 1 = .ok (.lload_n 2, 1) := by decide +kernel
theorem dX11_in_2 : decode cX11_in 2 = .ok (.lcmp, 1) := by decide +kernel
theorem dX11_in_3 : decode cX11_in 3 = .ok (.ifCond .lt 14, 3) := by decide +kernel
theorem dX11_in_6 : decode cX11_in 6 = .ok (.lload_n 0, 1) := by decide +kernel
theorem dX11_in_7 : decode cX11_in 7 = .ok (.lload 4, 2) := by decide +kernel
theorem dX11_in_9 : decode cX11_in 9 = .ok (.lcmp, 1) := by decide +kernel
theorem dX11_in_10 : decode cX11_in 10 = .ok (.ifCond .gt 7, 3) := by decide +kernel
theorem dX11_in_13 : decode cX11_in 13 = .ok (.iconst 1, 1) := by decide +kernel
theorem dX11_in_14 : decode cX11_in 14 = .ok (.goto 4, 3) := by decide +kernel
theorem dX11_in_17 : decode cX11_in 17 = .ok (.iconst 0, 1) := by decide +kernel
theorem dX11_in_18 : decode cX11_in 18 = .ok (.ireturn, 1) := by decide +kernel
theorem dX11_letters_0 : decode cX11_letters 0 = .ok (.iconst 0, 1) := by decide +kernel
theorem dX11_letters_1 : decode cX11_letters 1 = .ok (.istore_n 3, 1) := by decide +kernel
theorem dX11_letters_2 : decode cX11_letters 2 = .ok (.iconst 1, 1) := by decide +kernel
theorem dX11_letters_3 : decode cX11_letters 3 = .ok (.istore 4, 2) := by decide +kernel
theorem dX11_letters_5 : decode cX11_letters 5 = .ok (.lload_n 1, 1) := by decide +kernel
theorem dX11_letters_6 : decode cX11_letters 6 = .ok (.lstore 5, 2) := by decide +kernel
theorem dX11_letters_8 : decode cX11_letters 8 = .ok (.iconst 0, 1) := by decide +kernel
theorem dX11_letters_9 : decode cX11_letters 9 = .ok (.istore 7, 2) := by decide +kernel
theorem dX11_letters_11 : decode cX11_letters 11 = .ok (.iload 7, 2) := by decide +kernel
theorem dX11_letters_13 : decode cX11_letters 13 = .ok (.bipush 8, 2) := by decide +kernel
theorem dX11_letters_15 : decode cX11_letters 15 = .ok (.if_icmp .ge 68, 3) := by decide +kernel
theorem dX11_letters_18 : decode cX11_letters 18 = .ok (.lload 5, 2) := by decide +kernel
theorem dX11_letters_20 : decode cX11_letters 20 = .ok (.ldc2_w 62, 3) := by decide +kernel
theorem dX11_letters_23 : decode cX11_letters 23 = .ok (.land, 1) := by decide +kernel
theorem dX11_letters_24 : decode cX11_letters 24 = .ok (.l2i, 1) := by decide +kernel
theorem dX11_letters_25 : decode cX11_letters 25 = .ok (.istore 8, 2) := by decide +kernel
theorem dX11_letters_27 : decode cX11_letters 27 = .ok (.lload 5, 2) := by decide +kernel
theorem dX11_letters_29 : decode cX11_letters 29 = .ok (.bipush 8, 2) := by decide +kernel
theorem dX11_letters_31 : decode cX11_letters 31 = .ok (.lushr, 1) := by decide +kernel
theorem dX11_letters_32 : decode cX11_letters 32 = .ok (.lstore 5, 2) := by decide +kernel
theorem dX11_letters_34 : decode cX11_letters 34 = .ok (.iload 4, 2) := by decide +kernel
theorem dX11_letters_36 : decode cX11_letters 36 = .ok (.ifCond .eq 25, 3) := by decide +kernel
theorem dX11_letters_39 : decode cX11_letters 39 = .ok (.iload 8, 2) := by decide +kernel
theorem dX11_letters_41 : decode cX11_letters 41 = .ok (.bipush 126, 2) := by decide +kernel
theorem dX11_letters_43 : decode cX11_letters 43 = .ok (.if_icmp .gt 18, 3) := by decide +kernel
theorem dX11_letters_46 : decode cX11_letters 46 = .ok (.iload 8, 2) := by decide +kernel
theorem dX11_letters_48 : decode cX11_letters 48 = .ok (.ifCond .eq 9, 3) := by decide +kernel
theorem dX11_letters_51 : decode cX11_letters 51 = .ok (.iload_n 3, 1) := by decide +kernel
theorem dX11_letters_52 : decode cX11_letters 52 = .ok (.iload 7, 2) := by decide +kernel
theorem dX11_letters_54 : decode cX11_letters 54 = .ok (.if_icmp .ne 7, 3) := by decide +kernel
theorem dX11_letters_57 : decode cX11_letters 57 = .ok (.iconst 1, 1) := by decide +kernel
theorem dX11_letters_58 : decode cX11_letters 58 = .ok (.goto 4, 3) := by decide +kernel
theorem dX11_letters_61 : decode cX11_letters 61 = .ok (.iconst 0, 1) := by decide +kernel
theorem dX11_letters_62 : decode cX11_letters 62 = .ok (.istore 4, 2) := by decide +kernel
theorem dX11_letters_64 : decode cX11_letters 64 = .ok (.iload_n 3, 1) := by decide +kernel
theorem dX11_letters_65 : decode cX11_letters 65 = .ok (.iload 8, 2) := by decide +kernel
theorem dX11_letters_67 : decode cX11_letters 67 = .ok (.ifCond .le 7, 3) := by decide +kernel
theorem dX11_letters_70 : decode cX11_letters 70 = .ok (.iconst 1, 1) := by decide +kernel
theorem dX11_letters_71 : decode cX11_letters 71 = .ok (.goto 4, 3) := by decide +kernel
theorem dX11_letters_74 : decode cX11_letters 74 = .ok (.iconst 0, 1) := by decide +kernel
theorem dX11_letters_75 : decode cX11_letters 75 = .ok (.iadd, 1) := by decide +kernel
theorem dX11_letters_76 : decode cX11_letters 76 = .ok (.istore_n 3, 1) := by decide +kernel
theorem dX11_letters_77 : decode cX11_letters 77 = .ok (.iinc 7 1, 3) := by decide +kernel
theorem dX11_letters_80 : decode cX11_letters 80 = .ok (.goto (-69), 3) := by decide +kernel
theorem dX11_letters_83 : decode cX11_letters 83 = .ok (.iload 4, 2) := by decide +kernel
theorem dX11_letters_85 : decode cX11_letters 85 = .ok (.ifCond .ne 6, 3) := by decide +kernel
theorem dX11_letters_88 : decode cX11_letters 88 = .ok (.bipush (-102), 2) := by decide +kernel
theorem dX11_letters_90 : decode cX11_letters 90 = .ok (.ireturn, 1) := by decide +kernel
theorem dX11_letters_91 : decode cX11_letters 91 = .ok (.aload_n 0, 1) := by decide +kernel
theorem dX11_letters_92 : decode cX11_letters 92 = .ok (.getfield 64, 3) := by decide +kernel
theorem dX11_letters_95 : decode cX11_letters 95 = .ok (.iload_n 3, 1) := by decide +kernel
theorem dX11_letters_96 : decode cX11_letters 96 = .ok (.iadd, 1) := by decide +kernel
theorem dX11_letters_97 : decode cX11_letters 97 = .ok (.bipush 20, 2) := by decide +kernel
theorem dX11_letters_99 : decode cX11_letters 99 = .ok (.if_icmp .le 6, 3) := by decide +kernel
theorem dX11_letters_102 : decode cX11_letters 102 = .ok (.bipush (-104), 2) := by decide +kernel
theorem dX11_letters_104 : decode cX11_letters 104 = .ok (.ireturn, 1) := by decide +kernel
theorem dX11_letters_105 : decode cX11_letters 105 = .ok (.iconst 0, 1) := by decide +kernel
theorem dX11_letters_106 : decode cX11_letters 106 = .ok (.istore 7, 2) := by decide +kernel
theorem dX11_letters_108 : decode cX11_letters 108 = .ok (.iload 7, 2) := by decide +kernel
theorem dX11_letters_110 : decode cX11_letters 110 = .ok (.iload_n 3, 1) := by decide +kernel
theorem dX11_letters_111 : decode cX11_letters 111 = .ok (.if_icmp .ge 40, 3) := by decide +kernel
theorem dX11_letters_114 : decode cX11_letters 114 = .ok (.aload_n 0, 1) := by decide +kernel
theorem dX11_letters_115 : decode cX11_letters 115 = .ok (.getfield 7, 3) := by decide +kernel
theorem dX11_letters_118 : decode cX11_letters 118 = .ok (.aload_n 0, 1) := by decide +kernel
theorem dX11_letters_119 : decode cX11_letters 119 = .ok (.getfield 64, 3) := by decide +kernel
theorem dX11_letters_122 : decode cX11_letters 122 = .ok (.lload_n 1, 1) := by decide +kernel
theorem dX11_letters_123 : decode cX11_letters 123 = .ok (.bipush 8, 2) := by decide +kernel
theorem dX11_letters_125 : decode cX11_letters 125 = .ok (.iload 7, 2) := by decide +kernel
theorem dX11_letters_127 : decode cX11_letters 127 = .ok (.imul, 1) := by decide +kernel
theorem dX11_letters_128 : decode cX11_letters 128 = .ok (.lushr, 1) := by decide +kernel
theorem dX11_letters_129 : decode cX11_letters 129 = .ok (.ldc2_w 62, 3) := by decide +kernel
theorem dX11_letters_132 : decode cX11_letters 132 = .ok (.land, 1) := by decide +kernel
theorem dX11_letters_133 : decode cX11_letters 133 = .ok (.l2i, 1) := by decide +kernel
theorem dX11_letters_134 : decode cX11_letters 134 = .ok (.iastore, 1) := by decide +kernel
theorem dX11_letters_135 : decode cX11_letters 135 = .ok (.aload_n 0, 1) := by decide +kernel
theorem dX11_letters_136 : decode cX11_letters 136 = .ok (.dup, 1) := by decide +kernel
theorem dX11_letters_137 : decode cX11_letters 137 = .ok (.getfield 64, 3) := by decide +kernel
theorem dX11_letters_140 : decode cX11_letters 140 = .ok (.iconst 1, 1) := by decide +kernel
theorem dX11_letters_141 : decode cX11_letters 141 = .ok (.iadd, 1) := by decide +kernel
theorem dX11_letters_142 : decode cX11_letters 142 = .ok (.putfield 64, 3) := by decide +kernel
theorem dX11_letters_145 : decode cX11_letters 145 = .ok (.iinc 7 1, 3) := by decide +kernel
theorem dX11_letters_148 : decode cX11_letters 148 = .ok (.goto (-40), 3) := by decide +kernel
theorem dX11_letters_151 : decode cX11_letters 151 = .ok (.aload_n 0, 1) := by decide +kernel
theorem dX11_letters_152 : decode cX11_letters 152 = .ok (.getfield 64, 3) := by decide +kernel
theorem dX11_letters_155 : decode cX11_letters 155 = .ok (.ireturn, 1) := by decide +kernel
theorem dX11_blank_0 : decode cX11_blank 0 = .ok (.aload_n 0, 1) := by decide +kernel
theorem dX11_blank_1 : decode cX11_blank 1 = .ok (.getfield 64, 3) := by decide +kernel
theorem dX11_blank_4 : decode cX11_blank 4 = .ok (.istore_n 1, 1) := by decide +kernel
theorem dX11_blank_5 : decode cX11_blank 5 = .ok (.aload_n 0, 1) := by decide +kernel
theorem dX11_blank_6 : decode cX11_blank 6 = .ok (.iconst 0, 1) := by decide +kernel
theorem dX11_blank_7 : decode cX11_blank 7 = .ok (.putfield 64, 3) := by decide +kernel
theorem dX11_blank_10 : decode cX11_blank 10 = .ok (.iload_n 1, 1) := by decide +kernel
theorem dX11_blank_11 : decode cX11_blank 11 = .ok (.ireturn, 1) := by decide +kernel
theorem dX11_signOf_0 : decode cX11_signOf 0 = .ok (.iload_n 0, 1) := by decide +kernel
theorem dX11_signOf_1 : decode cX11_signOf 1 = .ok (.bipush 42, 2) := by decide +kernel
theorem dX11_signOf_3 : decode cX11_signOf 3 = .ok (.if_icmp .ne 7, 3) := by decide +kernel
theorem dX11_signOf_6 : decode cX11_signOf 6 = .ok (.iconst 1, 1) := by decide +kernel
theorem dX11_signOf_7 : decode cX11_signOf 7 = .ok (.goto 24, 3) := by decide +kernel
theorem dX11_signOf_10 : decode cX11_signOf 10 = .ok (.iload_n 0, 1) := by decide +kernel
theorem dX11_signOf_11 : decode cX11_signOf 11 = .ok (.bipush 126, 2) := by decide +kernel
theorem dX11_signOf_13 : decode cX11_signOf 13 = .ok (.if_icmp .ne 7, 3) := by decide +kernel
theorem dX11_signOf_16 : decode cX11_signOf 16 = .ok (.iconst 2, 1) := by decide +kernel
theorem dX11_signOf_17 : decode cX11_signOf 17 = .ok (.goto 14, 3) := by decide +kernel
theorem dX11_signOf_20 : decode cX11_signOf 20 = .ok (.iload_n 0, 1) := by decide +kernel
theorem dX11_signOf_21 : decode cX11_signOf 21 = .ok (.bipush 61, 2) := by decide +kernel
theorem dX11_signOf_23 : decode cX11_signOf 23 = .ok (.if_icmp .ne 7, 3) := by decide +kernel
theorem dX11_signOf_26 : decode cX11_signOf 26 = .ok (.iconst 3, 1) := by decide +kernel
theorem dX11_signOf_27 : decode cX11_signOf 27 = .ok (.goto 4, 3) := by decide +kernel
theorem dX11_signOf_30 : decode cX11_signOf 30 = .ok (.iconst 0, 1) := by decide +kernel
theorem dX11_signOf_31 : decode cX11_signOf 31 = .ok (.ireturn, 1) := by decide +kernel
theorem dX11_goDigit_0 : decode cX11_goDigit 0 = .ok (.aload_n 0, 1) := by decide +kernel
theorem dX11_goDigit_1 : decode cX11_goDigit 1 = .ok (.getfield 13, 3) := by decide +kernel
theorem dX11_goDigit_4 : decode cX11_goDigit 4 = .ok (.iload_n 2, 1) := by decide +kernel
theorem dX11_goDigit_5 : decode cX11_goDigit 5 = .ok (.iload_n 1, 1) := by decide +kernel
theorem dX11_goDigit_6 : decode cX11_goDigit 6 = .ok (.bipush 48, 2) := by decide +kernel
theorem dX11_goDigit_8 : decode cX11_goDigit 8 = .ok (.isub, 1) := by decide +kernel
theorem dX11_goDigit_9 : decode cX11_goDigit 9 = .ok (.iastore, 1) := by decide +kernel
theorem dX11_goDigit_10 : decode cX11_goDigit 10 = .ok (.iload_n 1, 1) := by decide +kernel
theorem dX11_goDigit_11 : decode cX11_goDigit 11 = .ok (.bipush 48, 2) := by decide +kernel
theorem dX11_goDigit_13 : decode cX11_goDigit 13 = .ok (.isub, 1) := by decide +kernel
theorem dX11_goDigit_14 : decode cX11_goDigit 14 = .ok (.i2l, 1) := by decide +kernel
theorem dX11_goDigit_15 : decode cX11_goDigit 15 = .ok (.iload_n 3, 1) := by decide +kernel
theorem dX11_goDigit_16 : decode cX11_goDigit 16 = .ok (.i2l, 1) := by decide +kernel
theorem dX11_goDigit_17 : decode cX11_goDigit 17 = .ok (.ldc2_w 67, 3) := by decide +kernel
theorem dX11_goDigit_20 : decode cX11_goDigit 20 = .ok (.invokestatic 69, 3) := by decide +kernel
theorem dX11_goDigit_23 : decode cX11_goDigit 23 = .ok (.ireturn, 1) := by decide +kernel
theorem dX11_goPivot_0 : decode cX11_goPivot 0 = .ok (.aload_n 0, 1) := by decide +kernel
theorem dX11_goPivot_1 : decode cX11_goPivot 1 = .ok (.getfield 13, 3) := by decide +kernel
theorem dX11_goPivot_4 : decode cX11_goPivot 4 = .ok (.iconst 1, 1) := by decide +kernel
theorem dX11_goPivot_5 : decode cX11_goPivot 5 = .ok (.iload_n 1, 1) := by decide +kernel
theorem dX11_goPivot_6 : decode cX11_goPivot 6 = .ok (.bipush 97, 2) := by decide +kernel
theorem dX11_goPivot_8 : decode cX11_goPivot 8 = .ok (.isub, 1) := by decide +kernel
theorem dX11_goPivot_9 : decode cX11_goPivot 9 = .ok (.iastore, 1) := by decide +kernel
theorem dX11_goPivot_10 : decode cX11_goPivot 10 = .ok (.aload_n 0, 1) := by decide +kernel
theorem dX11_goPivot_11 : decode cX11_goPivot 11 = .ok (.getfield 13, 3) := by decide +kernel
theorem dX11_goPivot_14 : decode cX11_goPivot 14 = .ok (.iconst 2, 1) := by decide +kernel
theorem dX11_goPivot_15 : decode cX11_goPivot 15 = .ok (.iconst 0, 1) := by decide +kernel
theorem dX11_goPivot_16 : decode cX11_goPivot 16 = .ok (.iastore, 1) := by decide +kernel
theorem dX11_goPivot_17 : decode cX11_goPivot 17 = .ok (.aload_n 0, 1) := by decide +kernel
theorem dX11_goPivot_18 : decode cX11_goPivot 18 = .ok (.iconst 2, 1) := by decide +kernel
theorem dX11_goPivot_19 : decode cX11_goPivot 19 = .ok (.putfield 73, 3) := by decide +kernel
theorem dX11_goPivot_22 : decode cX11_goPivot 22 = .ok (.iload_n 1, 1) := by decide +kernel
theorem dX11_goPivot_23 : decode cX11_goPivot 23 = .ok (.i2l, 1) := by decide +kernel
theorem dX11_goPivot_24 : decode cX11_goPivot 24 = .ok (.ldc2_w 76, 3) := by decide +kernel
theorem dX11_goPivot_27 : decode cX11_goPivot 27 = .ok (.ldc2_w 78, 3) := by decide +kernel
theorem dX11_goPivot_30 : decode cX11_goPivot 30 = .ok (.invokestatic 69, 3) := by decide +kernel
theorem dX11_goPivot_33 : decode cX11_goPivot 33 = .ok (.ireturn, 1) := by decide +kernel
theorem dX11_goEnd_0 : decode cX11_goEnd 0 = .ok (.iload_n 1, 1) := by decide +kernel
theorem dX11_goEnd_1 : decode cX11_goEnd 1 = .ok (.bipush 97, 2) := by decide +kernel
theorem dX11_goEnd_3 : decode cX11_goEnd 3 = .ok (.isub, 1) := by decide +kernel
theorem dX11_goEnd_4 : decode cX11_goEnd 4 = .ok (.istore_n 2, 1) := by decide +kernel
theorem dX11_goEnd_5 : decode cX11_goEnd 5 = .ok (.iload_n 2, 1) := by decide +kernel
theorem dX11_goEnd_6 : decode cX11_goEnd 6 = .ok (.i2l, 1) := by decide +kernel
theorem dX11_goEnd_7 : decode cX11_goEnd 7 = .ok (.lconst 0, 1) := by decide +kernel
theorem dX11_goEnd_8 : decode cX11_goEnd 8 = .ok (.ldc2_w 80, 3) := by decide +kernel
theorem dX11_goEnd_11 : decode cX11_goEnd 11 = .ok (.invokestatic 69, 3) := by decide +kernel
theorem dX11_goEnd_14 : decode cX11_goEnd 14 = .ok (.ifCond .eq 27, 3) := by decide +kernel
theorem dX11_goEnd_17 : decode cX11_goEnd 17 = .ok (.iload_n 2, 1) := by decide +kernel
theorem dX11_goEnd_18 : decode cX11_goEnd 18 = .ok (.aload_n 0, 1) := by decide +kernel
theorem dX11_goEnd_19 : decode cX11_goEnd 19 = .ok (.getfield 13, 3) := by decide +kernel
theorem dX11_goEnd_22 : decode cX11_goEnd 22 = .ok (.iconst 1, 1) := by decide +kernel
theorem dX11_goEnd_23 : decode cX11_goEnd 23 = .ok (.iaload, 1) := by decide +kernel
theorem dX11_goEnd_24 : decode cX11_goEnd 24 = .ok (.if_icmp .eq 17, 3) := by decide +kernel
theorem dX11_goEnd_27 : decode cX11_goEnd 27 = .ok (.aload_n 0, 1) := by decide +kernel
theorem dX11_goEnd_28 : decode cX11_goEnd 28 = .ok (.getfield 13, 3) := by decide +kernel
theorem dX11_goEnd_31 : decode cX11_goEnd 31 = .ok (.iconst 2, 1) := by decide +kernel
theorem dX11_goEnd_32 : decode cX11_goEnd 32 = .ok (.iaload, 1) := by decide +kernel
theorem dX11_goEnd_33 : decode cX11_goEnd 33 = .ok (.iconst 3, 1) := by decide +kernel
theorem dX11_goEnd_34 : decode cX11_goEnd 34 = .ok (.if_icmp .ge 7, 3) := by decide +kernel
theorem dX11_goEnd_37 : decode cX11_goEnd 37 = .ok (.iconst 1, 1) := by decide +kernel
theorem dX11_goEnd_38 : decode cX11_goEnd 38 = .ok (.goto 4, 3) := by decide +kernel
theorem dX11_goEnd_41 : decode cX11_goEnd 41 = .ok (.iconst 0, 1) := by decide +kernel
theorem dX11_goEnd_42 : decode cX11_goEnd 42 = .ok (.istore_n 3, 1) := by decide +kernel
theorem dX11_goEnd_43 : decode cX11_goEnd 43 = .ok (.iconst 0, 1) := by decide +kernel
theorem dX11_goEnd_44 : decode cX11_goEnd 44 = .ok (.istore 4, 2) := by decide +kernel
theorem dX11_goEnd_46 : decode cX11_goEnd 46 = .ok (.iload 4, 2) := by decide +kernel
theorem dX11_goEnd_48 : decode cX11_goEnd 48 = .ok (.aload_n 0, 1) := by decide +kernel
theorem dX11_goEnd_49 : decode cX11_goEnd 49 = .ok (.getfield 13, 3) := by decide +kernel
theorem dX11_goEnd_52 : decode cX11_goEnd 52 = .ok (.iconst 2, 1) := by decide +kernel
theorem dX11_goEnd_53 : decode cX11_goEnd 53 = .ok (.iaload, 1) := by decide +kernel
theorem dX11_goEnd_54 : decode cX11_goEnd 54 = .ok (.if_icmp .ge 32, 3) := by decide +kernel
theorem dX11_goEnd_57 : decode cX11_goEnd 57 = .ok (.iload_n 3, 1) := by decide +kernel
theorem dX11_goEnd_58 : decode cX11_goEnd 58 = .ok (.ifCond .eq 28, 3) := by decide +kernel
theorem dX11_goEnd_61 : decode cX11_goEnd 61 = .ok (.aload_n 0, 1) := by decide +kernel
theorem dX11_goEnd_62 : decode cX11_goEnd 62 = .ok (.getfield 13, 3) := by decide +kernel
theorem dX11_goEnd_65 : decode cX11_goEnd 65 = .ok (.iconst 3, 1) := by decide +kernel
theorem dX11_goEnd_66 : decode cX11_goEnd 66 = .ok (.iload 4, 2) := by decide +kernel
theorem dX11_goEnd_68 : decode cX11_goEnd 68 = .ok (.iadd, 1) := by decide +kernel
theorem dX11_goEnd_69 : decode cX11_goEnd 69 = .ok (.iaload, 1) := by decide +kernel
theorem dX11_goEnd_70 : decode cX11_goEnd 70 = .ok (.iload_n 2, 1) := by decide +kernel
theorem dX11_goEnd_71 : decode cX11_goEnd 71 = .ok (.if_icmp .eq 7, 3) := by decide +kernel
theorem dX11_goEnd_74 : decode cX11_goEnd 74 = .ok (.iconst 1, 1) := by decide +kernel
theorem dX11_goEnd_75 : decode cX11_goEnd 75 = .ok (.goto 4, 3) := by decide +kernel
theorem dX11_goEnd_78 : decode cX11_goEnd 78 = .ok (.iconst 0, 1) := by decide +kernel
theorem dX11_goEnd_79 : decode cX11_goEnd 79 = .ok (.istore_n 3, 1) := by decide +kernel
theorem dX11_goEnd_80 : decode cX11_goEnd 80 = .ok (.iinc 4 1, 3) := by decide +kernel
theorem dX11_goEnd_83 : decode cX11_goEnd 83 = .ok (.goto (-37), 3) := by decide +kernel
theorem dX11_goEnd_86 : decode cX11_goEnd 86 = .ok (.iload_n 3, 1) := by decide +kernel
theorem dX11_goEnd_87 : decode cX11_goEnd 87 = .ok (.ifCond .eq 27, 3) := by decide +kernel
theorem dX11_goEnd_90 : decode cX11_goEnd 90 = .ok (.aload_n 0, 1) := by decide +kernel
theorem dX11_goEnd_91 : decode cX11_goEnd 91 = .ok (.getfield 13, 3) := by decide +kernel
theorem dX11_goEnd_94 : decode cX11_goEnd 94 = .ok (.iconst 3, 1) := by decide +kernel
theorem dX11_goEnd_95 : decode cX11_goEnd 95 = .ok (.aload_n 0, 1) := by decide +kernel
theorem dX11_goEnd_96 : decode cX11_goEnd 96 = .ok (.getfield 13, 3) := by decide +kernel
theorem dX11_goEnd_99 : decode cX11_goEnd 99 = .ok (.iconst 2, 1) := by decide +kernel
theorem dX11_goEnd_100 : decode cX11_goEnd 100 = .ok (.iaload, 1) := by decide +kernel
theorem dX11_goEnd_101 : decode cX11_goEnd 101 = .ok (.iadd, 1) := by decide +kernel
theorem dX11_goEnd_102 : decode cX11_goEnd 102 = .ok (.iload_n 2, 1) := by decide +kernel
theorem dX11_goEnd_103 : decode cX11_goEnd 103 = .ok (.iastore, 1) := by decide +kernel
theorem dX11_goEnd_104 : decode cX11_goEnd 104 = .ok (.aload_n 0, 1) := by decide +kernel
theorem dX11_goEnd_105 : decode cX11_goEnd 105 = .ok (.getfield 13, 3) := by decide +kernel
theorem dX11_goEnd_108 : decode cX11_goEnd 108 = .ok (.iconst 2, 1) := by decide +kernel
theorem dX11_goEnd_109 : decode cX11_goEnd 109 = .ok (.dup2, 1) := by decide +kernel
theorem dX11_goEnd_110 : decode cX11_goEnd 110 = .ok (.iaload, 1) := by decide +kernel
theorem dX11_goEnd_111 : decode cX11_goEnd 111 = .ok (.iconst 1, 1) := by decide +kernel
theorem dX11_goEnd_112 : decode cX11_goEnd 112 = .ok (.iadd, 1) := by decide +kernel
theorem dX11_goEnd_113 : decode cX11_goEnd 113 = .ok (.iastore, 1) := by decide +kernel
theorem dX11_goEnd_114 : decode cX11_goEnd 114 = .ok (.aload_n 0, 1) := by decide +kernel
theorem dX11_goEnd_115 : decode cX11_goEnd 115 = .ok (.iconst 4, 1) := by decide +kernel
theorem dX11_goEnd_116 : decode cX11_goEnd 116 = .ok (.putfield 73, 3) := by decide +kernel
theorem dX11_goEnd_119 : decode cX11_goEnd 119 = .ok (.iload_n 3, 1) := by decide +kernel
theorem dX11_goEnd_120 : decode cX11_goEnd 120 = .ok (.ireturn, 1) := by decide +kernel
theorem dX11_go_0 : decode cX11_go 0 = .ok (.aload_n 0, 1) := by decide +kernel
theorem dX11_go_1 : decode cX11_go 1 = .ok (.getfield 73, 3) := by decide +kernel
theorem dX11_go_4 : decode cX11_go 4 = .ok (.istore_n 2, 1) := by decide +kernel
theorem dX11_go_5 : decode cX11_go 5 = .ok (.iload_n 2, 1) := by decide +kernel
theorem dX11_go_6 : decode cX11_go 6 = .ok (.tableswitch 110 0 4 #[34, 79, 110, 85, 91], 34) := by decide +kernel
theorem dX11_go_40 : decode cX11_go 40 = .ok (.aload_n 0, 1) := by decide +kernel
theorem dX11_go_41 : decode cX11_go 41 = .ok (.getfield 13, 3) := by decide +kernel
theorem dX11_go_44 : decode cX11_go 44 = .ok (.iconst 0, 1) := by decide +kernel
theorem dX11_go_45 : decode cX11_go 45 = .ok (.iload_n 1, 1) := by decide +kernel
theorem dX11_go_46 : decode cX11_go 46 = .ok (.invokestatic 82, 3) := by decide +kernel
theorem dX11_go_49 : decode cX11_go 49 = .ok (.iastore, 1) := by decide +kernel
theorem dX11_go_50 : decode cX11_go 50 = .ok (.aload_n 0, 1) := by decide +kernel
theorem dX11_go_51 : decode cX11_go 51 = .ok (.getfield 13, 3) := by decide +kernel
theorem dX11_go_54 : decode cX11_go 54 = .ok (.bipush 9, 2) := by decide +kernel
theorem dX11_go_56 : decode cX11_go 56 = .ok (.bipush 9, 2) := by decide +kernel
theorem dX11_go_58 : decode cX11_go 58 = .ok (.iastore, 1) := by decide +kernel
theorem dX11_go_59 : decode cX11_go 59 = .ok (.aload_n 0, 1) := by decide +kernel
theorem dX11_go_60 : decode cX11_go 60 = .ok (.iconst 1, 1) := by decide +kernel
theorem dX11_go_61 : decode cX11_go 61 = .ok (.putfield 73, 3) := by decide +kernel
theorem dX11_go_64 : decode cX11_go 64 = .ok (.iload_n 1, 1) := by decide +kernel
theorem dX11_go_65 : decode cX11_go 65 = .ok (.invokestatic 82, 3) := by decide +kernel
theorem dX11_go_68 : decode cX11_go 68 = .ok (.ifCond .gt 11, 3) := by decide +kernel
theorem dX11_go_71 : decode cX11_go 71 = .ok (.aload_n 0, 1) := by decide +kernel
theorem dX11_go_72 : decode cX11_go 72 = .ok (.iload_n 1, 1) := by decide +kernel
theorem dX11_go_73 : decode cX11_go 73 = .ok (.invokevirtual 86, 3) := by decide +kernel
theorem dX11_go_76 : decode cX11_go 76 = .ok (.ifCond .eq 7, 3) := by decide +kernel
theorem dX11_go_79 : decode cX11_go 79 = .ok (.iconst 1, 1) := by decide +kernel
theorem dX11_go_80 : decode cX11_go 80 = .ok (.goto 4, 3) := by decide +kernel
theorem dX11_go_83 : decode cX11_go 83 = .ok (.iconst 0, 1) := by decide +kernel
theorem dX11_go_84 : decode cX11_go 84 = .ok (.ireturn, 1) := by decide +kernel
theorem dX11_go_85 : decode cX11_go 85 = .ok (.aload_n 0, 1) := by decide +kernel
theorem dX11_go_86 : decode cX11_go 86 = .ok (.iload_n 1, 1) := by decide +kernel
theorem dX11_go_87 : decode cX11_go 87 = .ok (.invokevirtual 86, 3) := by decide +kernel
theorem dX11_go_90 : decode cX11_go 90 = .ok (.ireturn, 1) := by decide +kernel
theorem dX11_go_91 : decode cX11_go 91 = .ok (.aload_n 0, 1) := by decide +kernel
theorem dX11_go_92 : decode cX11_go 92 = .ok (.iload_n 1, 1) := by decide +kernel
theorem dX11_go_93 : decode cX11_go 93 = .ok (.invokevirtual 90, 3) := by decide +kernel
theorem dX11_go_96 : decode cX11_go 96 = .ok (.ireturn, 1) := by decide +kernel
theorem dX11_go_97 : decode cX11_go 97 = .ok (.iload_n 1, 1) := by decide +kernel
theorem dX11_go_98 : decode cX11_go 98 = .ok (.bipush 44, 2) := by decide +kernel
theorem dX11_go_100 : decode cX11_go 100 = .ok (.if_icmp .ne 10, 3) := by decide +kernel
theorem dX11_go_103 : decode cX11_go 103 = .ok (.aload_n 0, 1) := by decide +kernel
theorem dX11_go_104 : decode cX11_go 104 = .ok (.iconst 5, 1) := by decide +kernel
theorem dX11_go_105 : decode cX11_go 105 = .ok (.putfield 73, 3) := by decide +kernel
theorem dX11_go_108 : decode cX11_go 108 = .ok (.iconst 1, 1) := by decide +kernel
theorem dX11_go_109 : decode cX11_go 109 = .ok (.ireturn, 1) := by decide +kernel
theorem dX11_go_110 : decode cX11_go 110 = .ok (.aload_n 0, 1) := by decide +kernel
theorem dX11_go_111 : decode cX11_go 111 = .ok (.iload_n 1, 1) := by decide +kernel
theorem dX11_go_112 : decode cX11_go 112 = .ok (.invokevirtual 90, 3) := by decide +kernel
theorem dX11_go_115 : decode cX11_go 115 = .ok (.ireturn, 1) := by decide +kernel
theorem dX11_go_116 : decode cX11_go 116 = .ok (.aload_n 0, 1) := by decide +kernel
theorem dX11_go_117 : decode cX11_go 117 = .ok (.dup, 1) := by decide +kernel
theorem dX11_go_118 : decode cX11_go 118 = .ok (.getfield 73, 3) := by decide +kernel
theorem dX11_go_121 : decode cX11_go 121 = .ok (.iconst 1, 1) := by decide +kernel
theorem dX11_go_122 : decode cX11_go 122 = .ok (.iadd, 1) := by decide +kernel
theorem dX11_go_123 : decode cX11_go 123 = .ok (.putfield 73, 3) := by decide +kernel
theorem dX11_go_126 : decode cX11_go 126 = .ok (.iload_n 2, 1) := by decide +kernel
theorem dX11_go_127 : decode cX11_go 127 = .ok (.iconst 2, 1) := by decide +kernel
theorem dX11_go_128 : decode cX11_go 128 = .ok (.if_icmp .ne 17, 3) := by decide +kernel
theorem dX11_go_131 : decode cX11_go 131 = .ok (.iload_n 1, 1) := by decide +kernel
theorem dX11_go_132 : decode cX11_go 132 = .ok (.bipush 58, 2) := by decide +kernel
theorem dX11_go_134 : decode cX11_go 134 = .ok (.if_icmp .ne 7, 3) := by decide +kernel
theorem dX11_go_137 : decode cX11_go 137 = .ok (.iconst 1, 1) := by decide +kernel
theorem dX11_go_138 : decode cX11_go 138 = .ok (.goto 139, 3) := by decide +kernel
theorem dX11_go_141 : decode cX11_go 141 = .ok (.iconst 0, 1) := by decide +kernel
theorem dX11_go_142 : decode cX11_go 142 = .ok (.goto 135, 3) := by decide +kernel
theorem dX11_go_145 : decode cX11_go 145 = .ok (.iload_n 2, 1) := by decide +kernel
theorem dX11_go_146 : decode cX11_go 146 = .ok (.iconst 5, 1) := by decide +kernel
theorem dX11_go_147 : decode cX11_go 147 = .ok (.if_icmp .ne 14, 3) := by decide +kernel
theorem dX11_go_150 : decode cX11_go 150 = .ok (.aload_n 0, 1) := by decide +kernel
theorem dX11_go_151 : decode cX11_go 151 = .ok (.iload_n 1, 1) := by decide +kernel
theorem dX11_go_152 : decode cX11_go 152 = .ok (.bipush 6, 2) := by decide +kernel
theorem dX11_go_154 : decode cX11_go 154 = .ok (.iconst 1, 1) := by decide +kernel
theorem dX11_go_155 : decode cX11_go 155 = .ok (.invokevirtual 93, 3) := by decide +kernel
theorem dX11_go_158 : decode cX11_go 158 = .ok (.goto 119, 3) := by decide +kernel
theorem dX11_go_161 : decode cX11_go 161 = .ok (.iload_n 2, 1) := by decide +kernel
theorem dX11_go_162 : decode cX11_go 162 = .ok (.bipush 6, 2) := by decide +kernel
theorem dX11_go_164 : decode cX11_go 164 = .ok (.if_icmp .ne 17, 3) := by decide +kernel
theorem dX11_go_167 : decode cX11_go 167 = .ok (.iload_n 1, 1) := by decide +kernel
theorem dX11_go_168 : decode cX11_go 168 = .ok (.bipush 47, 2) := by decide +kernel
theorem dX11_go_170 : decode cX11_go 170 = .ok (.if_icmp .ne 7, 3) := by decide +kernel
theorem dX11_go_173 : decode cX11_go 173 = .ok (.iconst 1, 1) := by decide +kernel
theorem dX11_go_174 : decode cX11_go 174 = .ok (.goto 103, 3) := by decide +kernel
theorem dX11_go_177 : decode cX11_go 177 = .ok (.iconst 0, 1) := by decide +kernel
theorem dX11_go_178 : decode cX11_go 178 = .ok (.goto 99, 3) := by decide +kernel
theorem dX11_go_181 : decode cX11_go 181 = .ok (.iload_n 2, 1) := by decide +kernel
theorem dX11_go_182 : decode cX11_go 182 = .ok (.bipush 7, 2) := by decide +kernel
theorem dX11_go_184 : decode cX11_go 184 = .ok (.if_icmp .ne 14, 3) := by decide +kernel
theorem dX11_go_187 : decode cX11_go 187 = .ok (.aload_n 0, 1) := by decide +kernel
theorem dX11_go_188 : decode cX11_go 188 = .ok (.iload_n 1, 1) := by decide +kernel
theorem dX11_go_189 : decode cX11_go 189 = .ok (.bipush 7, 2) := by decide +kernel
theorem dX11_go_191 : decode cX11_go 191 = .ok (.iconst 1, 1) := by decide +kernel
theorem dX11_go_192 : decode cX11_go 192 = .ok (.invokevirtual 93, 3) := by decide +kernel
theorem dX11_go_195 : decode cX11_go 195 = .ok (.goto 82, 3) := by decide +kernel
theorem dX11_go_198 : decode cX11_go 198 = .ok (.iload_n 2, 1) := by decide +kernel
theorem dX11_go_199 : decode cX11_go 199 = .ok (.bipush 8, 2) := by decide +kernel
theorem dX11_go_201 : decode cX11_go 201 = .ok (.if_icmp .ne 17, 3) := by decide +kernel
theorem dX11_go_204 : decode cX11_go 204 = .ok (.iload_n 1, 1) := by decide +kernel
theorem dX11_go_205 : decode cX11_go 205 = .ok (.bipush 43, 2) := by decide +kernel
theorem dX11_go_207 : decode cX11_go 207 = .ok (.if_icmp .ne 7, 3) := by decide +kernel
theorem dX11_go_210 : decode cX11_go 210 = .ok (.iconst 1, 1) := by decide +kernel
theorem dX11_go_211 : decode cX11_go 211 = .ok (.goto 66, 3) := by decide +kernel
theorem dX11_go_214 : decode cX11_go 214 = .ok (.iconst 0, 1) := by decide +kernel
theorem dX11_go_215 : decode cX11_go 215 = .ok (.goto 62, 3) := by decide +kernel
theorem dX11_go_218 : decode cX11_go 218 = .ok (.iload_n 2, 1) := by decide +kernel
theorem dX11_go_219 : decode cX11_go 219 = .ok (.bipush 9, 2) := by decide +kernel
theorem dX11_go_221 : decode cX11_go 221 = .ok (.if_icmp .ne 14, 3) := by decide +kernel
theorem dX11_go_224 : decode cX11_go 224 = .ok (.aload_n 0, 1) := by decide +kernel
theorem dX11_go_225 : decode cX11_go 225 = .ok (.iload_n 1, 1) := by decide +kernel
theorem dX11_go_226 : decode cX11_go 226 = .ok (.bipush 8, 2) := by decide +kernel
theorem dX11_go_228 : decode cX11_go 228 = .ok (.iconst 0, 1) := by decide +kernel
theorem dX11_go_229 : decode cX11_go 229 = .ok (.invokevirtual 93, 3) := by decide +kernel
theorem dX11_go_232 : decode cX11_go 232 = .ok (.goto 45, 3) := by decide +kernel
theorem dX11_go_235 : decode cX11_go 235 = .ok (.iload_n 2, 1) := by decide +kernel
theorem dX11_go_236 : decode cX11_go 236 = .ok (.bipush 10, 2) := by decide +kernel
theorem dX11_go_238 : decode cX11_go 238 = .ok (.if_icmp .ne 17, 3) := by decide +kernel
theorem dX11_go_241 : decode cX11_go 241 = .ok (.iload_n 1, 1) := by decide +kernel
theorem dX11_go_242 : decode cX11_go 242 = .ok (.bipush 119, 2) := by decide +kernel
theorem dX11_go_244 : decode cX11_go 244 = .ok (.if_icmp .ne 7, 3) := by decide +kernel
theorem dX11_go_247 : decode cX11_go 247 = .ok (.iconst 1, 1) := by decide +kernel
theorem dX11_go_248 : decode cX11_go 248 = .ok (.goto 29, 3) := by decide +kernel
theorem dX11_go_251 : decode cX11_go 251 = .ok (.iconst 0, 1) := by decide +kernel
theorem dX11_go_252 : decode cX11_go 252 = .ok (.goto 25, 3) := by decide +kernel
theorem dX11_go_255 : decode cX11_go 255 = .ok (.iload_n 2, 1) := by decide +kernel
theorem dX11_go_256 : decode cX11_go 256 = .ok (.bipush 11, 2) := by decide +kernel
theorem dX11_go_258 : decode cX11_go 258 = .ok (.if_icmp .ne 18, 3) := by decide +kernel
theorem dX11_go_261 : decode cX11_go 261 = .ok (.aload_n 0, 1) := by decide +kernel
theorem dX11_go_262 : decode cX11_go 262 = .ok (.iload_n 1, 1) := by decide +kernel
theorem dX11_go_263 : decode cX11_go 263 = .ok (.bipush 9, 2) := by decide +kernel
theorem dX11_go_265 : decode cX11_go 265 = .ok (.iconst 1, 1) := by decide +kernel
theorem dX11_go_266 : decode cX11_go 266 = .ok (.invokevirtual 93, 3) := by decide +kernel
theorem dX11_go_269 : decode cX11_go 269 = .ok (.ifCond .eq 7, 3) := by decide +kernel
theorem dX11_go_272 : decode cX11_go 272 = .ok (.iconst 1, 1) := by decide +kernel
theorem dX11_go_273 : decode cX11_go 273 = .ok (.goto 4, 3) := by decide +kernel
theorem dX11_go_276 : decode cX11_go 276 = .ok (.iconst 0, 1) := by decide +kernel
theorem dX11_go_277 : decode cX11_go 277 = .ok (.ireturn, 1) := by decide +kernel
theorem dX11_faultOf_0 : decode cX11_faultOf 0 = .ok (.aload_n 0, 1) := by decide +kernel
theorem dX11_faultOf_1 : decode cX11_faultOf 1 = .ok (.iconst 0, 1) := by decide +kernel
theorem dX11_faultOf_2 : decode cX11_faultOf 2 = .ok (.putfield 73, 3) := by decide +kernel
theorem dX11_faultOf_5 : decode cX11_faultOf 5 = .ok (.iconst 0, 1) := by decide +kernel
theorem dX11_faultOf_6 : decode cX11_faultOf 6 = .ok (.istore_n 1, 1) := by decide +kernel
theorem dX11_faultOf_7 : decode cX11_faultOf 7 = .ok (.iload_n 1, 1) := by decide +kernel
theorem dX11_faultOf_8 : decode cX11_faultOf 8 = .ok (.aload_n 0, 1) := by decide +kernel
theorem dX11_faultOf_9 : decode cX11_faultOf 9 = .ok (.getfield 64, 3) := by decide +kernel
theorem dX11_faultOf_12 : decode cX11_faultOf 12 = .ok (.if_icmp .ge 22, 3) := by decide +kernel
theorem dX11_faultOf_15 : decode cX11_faultOf 15 = .ok (.aload_n 0, 1) := by decide +kernel
theorem dX11_faultOf_16 : decode cX11_faultOf 16 = .ok (.aload_n 0, 1) := by decide +kernel
theorem dX11_faultOf_17 : decode cX11_faultOf 17 = .ok (.getfield 7, 3) := by decide +kernel
theorem dX11_faultOf_20 : decode cX11_faultOf 20 = .ok (.iload_n 1, 1) := by decide +kernel
theorem dX11_faultOf_21 : decode cX11_faultOf 21 = .ok (.iaload, 1) := by decide +kernel
theorem dX11_faultOf_22 : decode cX11_faultOf 22 = .ok (.invokevirtual 97, 3) := by decide +kernel
theorem dX11_faultOf_25 : decode cX11_faultOf 25 = .ok (.ifCond .eq 9, 3) := by decide +kernel
theorem dX11_faultOf_28 : decode cX11_faultOf 28 = .ok (.iinc 1 1, 3) := by decide +kernel
theorem dX11_faultOf_31 : decode cX11_faultOf 31 = .ok (.goto (-24), 3) := by decide +kernel
theorem dX11_faultOf_34 : decode cX11_faultOf 34 = .ok (.iload_n 1, 1) := by decide +kernel
theorem dX11_faultOf_35 : decode cX11_faultOf 35 = .ok (.ireturn, 1) := by decide +kernel
theorem dX11_fault_0 : decode cX11_fault 0 = .ok (.aload_n 0, 1) := by decide +kernel
theorem dX11_fault_1 : decode cX11_fault 1 = .ok (.invokevirtual 100, 3) := by decide +kernel
theorem dX11_fault_4 : decode cX11_fault 4 = .ok (.ireturn, 1) := by decide +kernel
theorem dX11_bridge_0 : decode cX11_bridge 0 = .ok (.aload_n 0, 1) := by decide +kernel
theorem dX11_bridge_1 : decode cX11_bridge 1 = .ok (.invokevirtual 100, 3) := by decide +kernel
theorem dX11_bridge_4 : decode cX11_bridge 4 = .ok (.aload_n 0, 1) := by decide +kernel
theorem dX11_bridge_5 : decode cX11_bridge 5 = .ok (.getfield 64, 3) := by decide +kernel
theorem dX11_bridge_8 : decode cX11_bridge 8 = .ok (.if_icmp .lt 21, 3) := by decide +kernel
theorem dX11_bridge_11 : decode cX11_bridge 11 = .ok (.aload_n 0, 1) := by decide +kernel
theorem dX11_bridge_12 : decode cX11_bridge 12 = .ok (.getfield 73, 3) := by decide +kernel
theorem dX11_bridge_15 : decode cX11_bridge 15 = .ok (.bipush 10, 2) := by decide +kernel
theorem dX11_bridge_17 : decode cX11_bridge 17 = .ok (.if_icmp .eq 15, 3) := by decide +kernel
theorem dX11_bridge_20 : decode cX11_bridge 20 = .ok (.aload_n 0, 1) := by decide +kernel
theorem dX11_bridge_21 : decode cX11_bridge 21 = .ok (.getfield 73, 3) := by decide +kernel
theorem dX11_bridge_24 : decode cX11_bridge 24 = .ok (.bipush 12, 2) := by decide +kernel
theorem dX11_bridge_26 : decode cX11_bridge 26 = .ok (.if_icmp .eq 6, 3) := by decide +kernel
theorem dX11_bridge_29 : decode cX11_bridge 29 = .ok (.bipush (-103), 2) := by decide +kernel
theorem dX11_bridge_31 : decode cX11_bridge 31 = .ok (.ireturn, 1) := by decide +kernel
theorem dX11_bridge_32 : decode cX11_bridge 32 = .ok (.aload_n 0, 1) := by decide +kernel
theorem dX11_bridge_33 : decode cX11_bridge 33 = .ok (.getfield 104, 3) := by decide +kernel
theorem dX11_bridge_36 : decode cX11_bridge 36 = .ok (.bipush 10, 2) := by decide +kernel
theorem dX11_bridge_38 : decode cX11_bridge 38 = .ok (.if_icmp .ne 6, 3) := by decide +kernel
theorem dX11_bridge_41 : decode cX11_bridge 41 = .ok (.bipush (-104), 2) := by decide +kernel
theorem dX11_bridge_43 : decode cX11_bridge 43 = .ok (.ireturn, 1) := by decide +kernel
theorem dX11_bridge_44 : decode cX11_bridge 44 = .ok (.iconst 0, 1) := by decide +kernel
theorem dX11_bridge_45 : decode cX11_bridge 45 = .ok (.istore_n 1, 1) := by decide +kernel
theorem dX11_bridge_46 : decode cX11_bridge 46 = .ok (.iload_n 1, 1) := by decide +kernel
theorem dX11_bridge_47 : decode cX11_bridge 47 = .ok (.bipush 10, 2) := by decide +kernel
theorem dX11_bridge_49 : decode cX11_bridge 49 = .ok (.if_icmp .ge 29, 3) := by decide +kernel
theorem dX11_bridge_52 : decode cX11_bridge 52 = .ok (.aload_n 0, 1) := by decide +kernel
theorem dX11_bridge_53 : decode cX11_bridge 53 = .ok (.getfield 16, 3) := by decide +kernel
theorem dX11_bridge_56 : decode cX11_bridge 56 = .ok (.bipush 10, 2) := by decide +kernel
theorem dX11_bridge_58 : decode cX11_bridge 58 = .ok (.aload_n 0, 1) := by decide +kernel
theorem dX11_bridge_59 : decode cX11_bridge 59 = .ok (.getfield 104, 3) := by decide +kernel
theorem dX11_bridge_62 : decode cX11_bridge 62 = .ok (.imul, 1) := by decide +kernel
theorem dX11_bridge_63 : decode cX11_bridge 63 = .ok (.iload_n 1, 1) := by decide +kernel
theorem dX11_bridge_64 : decode cX11_bridge 64 = .ok (.iadd, 1) := by decide +kernel
theorem dX11_bridge_65 : decode cX11_bridge 65 = .ok (.aload_n 0, 1) := by decide +kernel
theorem dX11_bridge_66 : decode cX11_bridge 66 = .ok (.getfield 13, 3) := by decide +kernel
theorem dX11_bridge_69 : decode cX11_bridge 69 = .ok (.iload_n 1, 1) := by decide +kernel
theorem dX11_bridge_70 : decode cX11_bridge 70 = .ok (.iaload, 1) := by decide +kernel
theorem dX11_bridge_71 : decode cX11_bridge 71 = .ok (.iastore, 1) := by decide +kernel
theorem dX11_bridge_72 : decode cX11_bridge 72 = .ok (.iinc 1 1, 3) := by decide +kernel
theorem dX11_bridge_75 : decode cX11_bridge 75 = .ok (.goto (-29), 3) := by decide +kernel
theorem dX11_bridge_78 : decode cX11_bridge 78 = .ok (.aload_n 0, 1) := by decide +kernel
theorem dX11_bridge_79 : decode cX11_bridge 79 = .ok (.dup, 1) := by decide +kernel
theorem dX11_bridge_80 : decode cX11_bridge 80 = .ok (.getfield 104, 3) := by decide +kernel
theorem dX11_bridge_83 : decode cX11_bridge 83 = .ok (.iconst 1, 1) := by decide +kernel
theorem dX11_bridge_84 : decode cX11_bridge 84 = .ok (.iadd, 1) := by decide +kernel
theorem dX11_bridge_85 : decode cX11_bridge 85 = .ok (.putfield 104, 3) := by decide +kernel
theorem dX11_bridge_88 : decode cX11_bridge 88 = .ok (.aload_n 0, 1) := by decide +kernel
theorem dX11_bridge_89 : decode cX11_bridge 89 = .ok (.iconst 0, 1) := by decide +kernel
theorem dX11_bridge_90 : decode cX11_bridge 90 = .ok (.putfield 64, 3) := by decide +kernel
theorem dX11_bridge_93 : decode cX11_bridge 93 = .ok (.aload_n 0, 1) := by decide +kernel
theorem dX11_bridge_94 : decode cX11_bridge 94 = .ok (.getfield 104, 3) := by decide +kernel
theorem dX11_bridge_97 : decode cX11_bridge 97 = .ok (.iconst 1, 1) := by decide +kernel
theorem dX11_bridge_98 : decode cX11_bridge 98 = .ok (.isub, 1) := by decide +kernel
theorem dX11_bridge_99 : decode cX11_bridge 99 = .ok (.ireturn, 1) := by decide +kernel
theorem dX11_isBridge_0 : decode cX11_isBridge 0 = .ok (.iload_n 1, 1) := by decide +kernel
theorem dX11_isBridge_1 : decode cX11_isBridge 1 = .ok (.i2l, 1) := by decide +kernel
theorem dX11_isBridge_2 : decode cX11_isBridge 2 = .ok (.lconst 0, 1) := by decide +kernel
theorem dX11_isBridge_3 : decode cX11_isBridge 3 = .ok (.aload_n 0, 1) := by decide +kernel
theorem dX11_isBridge_4 : decode cX11_isBridge 4 = .ok (.getfield 104, 3) := by decide +kernel
theorem dX11_isBridge_7 : decode cX11_isBridge 7 = .ok (.iconst 1, 1) := by decide +kernel
theorem dX11_isBridge_8 : decode cX11_isBridge 8 = .ok (.isub, 1) := by decide +kernel
theorem dX11_isBridge_9 : decode cX11_isBridge 9 = .ok (.i2l, 1) := by decide +kernel
theorem dX11_isBridge_10 : decode cX11_isBridge 10 = .ok (.invokestatic 69, 3) := by decide +kernel
theorem dX11_isBridge_13 : decode cX11_isBridge 13 = .ok (.ireturn, 1) := by decide +kernel
theorem dX11_isIslet_0 : decode cX11_isIslet 0 = .ok (.iload_n 0, 1) := by decide +kernel
theorem dX11_isIslet_1 : decode cX11_isIslet 1 = .ok (.i2l, 1) := by decide +kernel
theorem dX11_isIslet_2 : decode cX11_isIslet 2 = .ok (.lconst 0, 1) := by decide +kernel
theorem dX11_isIslet_3 : decode cX11_isIslet 3 = .ok (.ldc2_w 80, 3) := by decide +kernel
theorem dX11_isIslet_6 : decode cX11_isIslet 6 = .ok (.invokestatic 69, 3) := by decide +kernel
theorem dX11_isIslet_9 : decode cX11_isIslet 9 = .ok (.ireturn, 1) := by decide +kernel
theorem dX11_as_0 : decode cX11_as 0 = .ok (.aload_n 0, 1) := by decide +kernel
theorem dX11_as_1 : decode cX11_as 1 = .ok (.iload_n 1, 1) := by decide +kernel
theorem dX11_as_2 : decode cX11_as 2 = .ok (.invokevirtual 107, 3) := by decide +kernel
theorem dX11_as_5 : decode cX11_as 5 = .ok (.ifCond .ne 6, 3) := by decide +kernel
theorem dX11_as_8 : decode cX11_as 8 = .ok (.bipush (-101), 2) := by decide +kernel
theorem dX11_as_10 : decode cX11_as 10 = .ok (.ireturn, 1) := by decide +kernel
theorem dX11_as_11 : decode cX11_as 11 = .ok (.iload_n 2, 1) := by decide +kernel
theorem dX11_as_12 : decode cX11_as 12 = .ok (.i2l, 1) := by decide +kernel
theorem dX11_as_13 : decode cX11_as 13 = .ok (.lconst 0, 1) := by decide +kernel
theorem dX11_as_14 : decode cX11_as 14 = .ok (.ldc2_w 110, 3) := by decide +kernel
theorem dX11_as_17 : decode cX11_as 17 = .ok (.invokestatic 69, 3) := by decide +kernel
theorem dX11_as_20 : decode cX11_as 20 = .ok (.ifCond .ne 6, 3) := by decide +kernel
theorem dX11_as_23 : decode cX11_as 23 = .ok (.bipush (-102), 2) := by decide +kernel
theorem dX11_as_25 : decode cX11_as 25 = .ok (.ireturn, 1) := by decide +kernel
theorem dX11_as_26 : decode cX11_as 26 = .ok (.aload_n 0, 1) := by decide +kernel
theorem dX11_as_27 : decode cX11_as 27 = .ok (.getfield 16, 3) := by decide +kernel
theorem dX11_as_30 : decode cX11_as 30 = .ok (.bipush 10, 2) := by decide +kernel
theorem dX11_as_32 : decode cX11_as 32 = .ok (.iload_n 1, 1) := by decide +kernel
theorem dX11_as_33 : decode cX11_as 33 = .ok (.imul, 1) := by decide +kernel
theorem dX11_as_34 : decode cX11_as 34 = .ok (.iaload, 1) := by decide +kernel
theorem dX11_as_35 : decode cX11_as 35 = .ok (.istore_n 3, 1) := by decide +kernel
theorem dX11_as_36 : decode cX11_as 36 = .ok (.iload_n 2, 1) := by decide +kernel
theorem dX11_as_37 : decode cX11_as 37 = .ok (.ifCond .eq 18, 3) := by decide +kernel
theorem dX11_as_40 : decode cX11_as 40 = .ok (.iload_n 2, 1) := by decide +kernel
theorem dX11_as_41 : decode cX11_as 41 = .ok (.iload_n 3, 1) := by decide +kernel
theorem dX11_as_42 : decode cX11_as 42 = .ok (.if_icmp .eq 13, 3) := by decide +kernel
theorem dX11_as_45 : decode cX11_as 45 = .ok (.iload_n 2, 1) := by decide +kernel
theorem dX11_as_46 : decode cX11_as 46 = .ok (.iconst 1, 1) := by decide +kernel
theorem dX11_as_47 : decode cX11_as 47 = .ok (.if_icmp .ne 12, 3) := by decide +kernel
theorem dX11_as_50 : decode cX11_as 50 = .ok (.iload_n 3, 1) := by decide +kernel
theorem dX11_as_51 : decode cX11_as 51 = .ok (.iconst 2, 1) := by decide +kernel
theorem dX11_as_52 : decode cX11_as 52 = .ok (.if_icmp .ne 7, 3) := by decide +kernel
theorem dX11_as_55 : decode cX11_as 55 = .ok (.iconst 1, 1) := by decide +kernel
theorem dX11_as_56 : decode cX11_as 56 = .ok (.goto 4, 3) := by decide +kernel
theorem dX11_as_59 : decode cX11_as 59 = .ok (.iconst 0, 1) := by decide +kernel
theorem dX11_as_60 : decode cX11_as 60 = .ok (.istore 4, 2) := by decide +kernel
theorem dX11_as_62 : decode cX11_as 62 = .ok (.iload 4, 2) := by decide +kernel
theorem dX11_as_64 : decode cX11_as 64 = .ok (.ifCond .eq 7, 3) := by decide +kernel
theorem dX11_as_67 : decode cX11_as 67 = .ok (.iload_n 1, 1) := by decide +kernel
theorem dX11_as_68 : decode cX11_as 68 = .ok (.goto 4, 3) := by decide +kernel
theorem dX11_as_71 : decode cX11_as 71 = .ok (.iconst (-1), 1) := by decide +kernel
theorem dX11_as_72 : decode cX11_as 72 = .ok (.ireturn, 1) := by decide +kernel
theorem dX11_placeOf_0 : decode cX11_placeOf 0 = .ok (.aload_n 0, 1) := by decide +kernel
theorem dX11_placeOf_1 : decode cX11_placeOf 1 = .ok (.getfield 16, 3) := by decide +kernel
theorem dX11_placeOf_4 : decode cX11_placeOf 4 = .ok (.bipush 10, 2) := by decide +kernel
theorem dX11_placeOf_6 : decode cX11_placeOf 6 = .ok (.iload_n 1, 1) := by decide +kernel
theorem dX11_placeOf_7 : decode cX11_placeOf 7 = .ok (.imul, 1) := by decide +kernel
theorem dX11_placeOf_8 : decode cX11_placeOf 8 = .ok (.iaload, 1) := by decide +kernel
theorem dX11_placeOf_9 : decode cX11_placeOf 9 = .ok (.istore_n 2, 1) := by decide +kernel
theorem dX11_placeOf_10 : decode cX11_placeOf 10 = .ok (.aload_n 0, 1) := by decide +kernel
theorem dX11_placeOf_11 : decode cX11_placeOf 11 = .ok (.getfield 16, 3) := by decide +kernel
theorem dX11_placeOf_14 : decode cX11_placeOf 14 = .ok (.bipush 10, 2) := by decide +kernel
theorem dX11_placeOf_16 : decode cX11_placeOf 16 = .ok (.iload_n 1, 1) := by decide +kernel
theorem dX11_placeOf_17 : decode cX11_placeOf 17 = .ok (.imul, 1) := by decide +kernel
theorem dX11_placeOf_18 : decode cX11_placeOf 18 = .ok (.bipush 7, 2) := by decide +kernel
theorem dX11_placeOf_20 : decode cX11_placeOf 20 = .ok (.iadd, 1) := by decide +kernel
theorem dX11_placeOf_21 : decode cX11_placeOf 21 = .ok (.iaload, 1) := by decide +kernel
theorem dX11_placeOf_22 : decode cX11_placeOf 22 = .ok (.istore_n 3, 1) := by decide +kernel
theorem dX11_placeOf_23 : decode cX11_placeOf 23 = .ok (.aload_n 0, 1) := by decide +kernel
theorem dX11_placeOf_24 : decode cX11_placeOf 24 = .ok (.getfield 16, 3) := by decide +kernel
theorem dX11_placeOf_27 : decode cX11_placeOf 27 = .ok (.bipush 10, 2) := by decide +kernel
theorem dX11_placeOf_29 : decode cX11_placeOf 29 = .ok (.iload_n 1, 1) := by decide +kernel
theorem dX11_placeOf_30 : decode cX11_placeOf 30 = .ok (.imul, 1) := by decide +kernel
theorem dX11_placeOf_31 : decode cX11_placeOf 31 = .ok (.bipush 6, 2) := by decide +kernel
theorem dX11_placeOf_33 : decode cX11_placeOf 33 = .ok (.iadd, 1) := by decide +kernel
theorem dX11_placeOf_34 : decode cX11_placeOf 34 = .ok (.iaload, 1) := by decide +kernel
theorem dX11_placeOf_35 : decode cX11_placeOf 35 = .ok (.aload_n 0, 1) := by decide +kernel
theorem dX11_placeOf_36 : decode cX11_placeOf 36 = .ok (.getfield 112, 3) := by decide +kernel
theorem dX11_placeOf_39 : decode cX11_placeOf 39 = .ok (.iconst 1, 1) := by decide +kernel
theorem dX11_placeOf_40 : decode cX11_placeOf 40 = .ok (.if_icmp .ne 19, 3) := by decide +kernel
theorem dX11_placeOf_43 : decode cX11_placeOf 43 = .ok (.iload_n 2, 1) := by decide +kernel
theorem dX11_placeOf_44 : decode cX11_placeOf 44 = .ok (.iconst 1, 1) := by decide +kernel
theorem dX11_placeOf_45 : decode cX11_placeOf 45 = .ok (.if_icmp .eq 8, 3) := by decide +kernel
theorem dX11_placeOf_48 : decode cX11_placeOf 48 = .ok (.iload_n 2, 1) := by decide +kernel
theorem dX11_placeOf_49 : decode cX11_placeOf 49 = .ok (.iconst 2, 1) := by decide +kernel
theorem dX11_placeOf_50 : decode cX11_placeOf 50 = .ok (.if_icmp .ne 9, 3) := by decide +kernel
theorem dX11_placeOf_53 : decode cX11_placeOf 53 = .ok (.iconst 2, 1) := by decide +kernel
theorem dX11_placeOf_54 : decode cX11_placeOf 54 = .ok (.iload_n 3, 1) := by decide +kernel
theorem dX11_placeOf_55 : decode cX11_placeOf 55 = .ok (.imul, 1) := by decide +kernel
theorem dX11_placeOf_56 : decode cX11_placeOf 56 = .ok (.goto 4, 3) := by decide +kernel
theorem dX11_placeOf_59 : decode cX11_placeOf 59 = .ok (.iload_n 3, 1) := by decide +kernel
theorem dX11_placeOf_60 : decode cX11_placeOf 60 = .ok (.iadd, 1) := by decide +kernel
theorem dX11_placeOf_61 : decode cX11_placeOf 61 = .ok (.ireturn, 1) := by decide +kernel
theorem dX11_placesOf_0 : decode cX11_placesOf 0 = .ok (.aload_n 0, 1) := by decide +kernel
theorem dX11_placesOf_1 : decode cX11_placesOf 1 = .ok (.getfield 16, 3) := by decide +kernel
theorem dX11_placesOf_4 : decode cX11_placesOf 4 = .ok (.bipush 10, 2) := by decide +kernel
theorem dX11_placesOf_6 : decode cX11_placesOf 6 = .ok (.iload_n 1, 1) := by decide +kernel
theorem dX11_placesOf_7 : decode cX11_placesOf 7 = .ok (.imul, 1) := by decide +kernel
theorem dX11_placesOf_8 : decode cX11_placesOf 8 = .ok (.iconst 2, 1) := by decide +kernel
theorem dX11_placesOf_9 : decode cX11_placesOf 9 = .ok (.iadd, 1) := by decide +kernel
theorem dX11_placesOf_10 : decode cX11_placesOf 10 = .ok (.iaload, 1) := by decide +kernel
theorem dX11_placesOf_11 : decode cX11_placesOf 11 = .ok (.istore_n 2, 1) := by decide +kernel
theorem dX11_placesOf_12 : decode cX11_placesOf 12 = .ok (.aload_n 0, 1) := by decide +kernel
theorem dX11_placesOf_13 : decode cX11_placesOf 13 = .ok (.getfield 16, 3) := by decide +kernel
theorem dX11_placesOf_16 : decode cX11_placesOf 16 = .ok (.bipush 10, 2) := by decide +kernel
theorem dX11_placesOf_18 : decode cX11_placesOf 18 = .ok (.iload_n 1, 1) := by decide +kernel
theorem dX11_placesOf_19 : decode cX11_placesOf 19 = .ok (.imul, 1) := by decide +kernel
theorem dX11_placesOf_20 : decode cX11_placesOf 20 = .ok (.iaload, 1) := by decide +kernel
theorem dX11_placesOf_21 : decode cX11_placesOf 21 = .ok (.iconst 2, 1) := by decide +kernel
theorem dX11_placesOf_22 : decode cX11_placesOf 22 = .ok (.if_icmp .ne 16, 3) := by decide +kernel
theorem dX11_placesOf_25 : decode cX11_placesOf 25 = .ok (.iload_n 2, 1) := by decide +kernel
theorem dX11_placesOf_26 : decode cX11_placesOf 26 = .ok (.iconst 1, 1) := by decide +kernel
theorem dX11_placesOf_27 : decode cX11_placesOf 27 = .ok (.if_icmp .le 11, 3) := by decide +kernel
theorem dX11_placesOf_30 : decode cX11_placesOf 30 = .ok (.iconst 2, 1) := by decide +kernel
theorem dX11_placesOf_31 : decode cX11_placesOf 31 = .ok (.iload_n 2, 1) := by decide +kernel
theorem dX11_placesOf_32 : decode cX11_placesOf 32 = .ok (.imul, 1) := by decide +kernel
theorem dX11_placesOf_33 : decode cX11_placesOf 33 = .ok (.iconst 2, 1) := by decide +kernel
theorem dX11_placesOf_34 : decode cX11_placesOf 34 = .ok (.isub, 1) := by decide +kernel
theorem dX11_placesOf_35 : decode cX11_placesOf 35 = .ok (.goto 4, 3) := by decide +kernel
theorem dX11_placesOf_38 : decode cX11_placesOf 38 = .ok (.iload_n 2, 1) := by decide +kernel
theorem dX11_placesOf_39 : decode cX11_placesOf 39 = .ok (.ireturn, 1) := by decide +kernel
theorem dX11_roundOf_0 : decode cX11_roundOf 0 = .ok (.aload_n 0, 1) := by decide +kernel
theorem dX11_roundOf_1 : decode cX11_roundOf 1 = .ok (.getfield 16, 3) := by decide +kernel
theorem dX11_roundOf_4 : decode cX11_roundOf 4 = .ok (.bipush 10, 2) := by decide +kernel
theorem dX11_roundOf_6 : decode cX11_roundOf 6 = .ok (.iload_n 1, 1) := by decide +kernel
theorem dX11_roundOf_7 : decode cX11_roundOf 7 = .ok (.imul, 1) := by decide +kernel
theorem dX11_roundOf_8 : decode cX11_roundOf 8 = .ok (.iaload, 1) := by decide +kernel
theorem dX11_roundOf_9 : decode cX11_roundOf 9 = .ok (.iconst 3, 1) := by decide +kernel
theorem dX11_roundOf_10 : decode cX11_roundOf 10 = .ok (.if_icmp .ne 7, 3) := by decide +kernel
theorem dX11_roundOf_13 : decode cX11_roundOf 13 = .ok (.iconst 1, 1) := by decide +kernel
theorem dX11_roundOf_14 : decode cX11_roundOf 14 = .ok (.goto 14, 3) := by decide +kernel
theorem dX11_roundOf_17 : decode cX11_roundOf 17 = .ok (.aload_n 0, 1) := by decide +kernel
theorem dX11_roundOf_18 : decode cX11_roundOf 18 = .ok (.iload_n 1, 1) := by decide +kernel
theorem dX11_roundOf_19 : decode cX11_roundOf 19 = .ok (.invokevirtual 115, 3) := by decide +kernel
theorem dX11_roundOf_22 : decode cX11_roundOf 22 = .ok (.aload_n 0, 1) := by decide +kernel
theorem dX11_roundOf_23 : decode cX11_roundOf 23 = .ok (.iload_n 1, 1) := by decide +kernel
theorem dX11_roundOf_24 : decode cX11_roundOf 24 = .ok (.invokevirtual 118, 3) := by decide +kernel
theorem dX11_roundOf_27 : decode cX11_roundOf 27 = .ok (.imul, 1) := by decide +kernel
theorem dX11_roundOf_28 : decode cX11_roundOf 28 = .ok (.ireturn, 1) := by decide +kernel
theorem dX11_tellAbout_0 : decode cX11_tellAbout 0 = .ok (.iload_n 2, 1) := by decide +kernel
theorem dX11_tellAbout_1 : decode cX11_tellAbout 1 = .ok (.tableswitch 136 0 12 #[67, 67, 67, 79, 79, 79, 79, 93, 136, 136, 99, 99, 99], 67) := by decide +kernel
theorem dX11_tellAbout_68 : decode cX11_tellAbout 68 = .ok (.aload_n 0, 1) := by decide +kernel
theorem dX11_tellAbout_69 : decode cX11_tellAbout 69 = .ok (.getfield 16, 3) := by decide +kernel
theorem dX11_tellAbout_72 : decode cX11_tellAbout 72 = .ok (.bipush 10, 2) := by decide +kernel
theorem dX11_tellAbout_74 : decode cX11_tellAbout 74 = .ok (.iload_n 1, 1) := by decide +kernel
theorem dX11_tellAbout_75 : decode cX11_tellAbout 75 = .ok (.imul, 1) := by decide +kernel
theorem dX11_tellAbout_76 : decode cX11_tellAbout 76 = .ok (.iload_n 2, 1) := by decide +kernel
theorem dX11_tellAbout_77 : decode cX11_tellAbout 77 = .ok (.iadd, 1) := by decide +kernel
theorem dX11_tellAbout_78 : decode cX11_tellAbout 78 = .ok (.iaload, 1) := by decide +kernel
theorem dX11_tellAbout_79 : decode cX11_tellAbout 79 = .ok (.ireturn, 1) := by decide +kernel
theorem dX11_tellAbout_80 : decode cX11_tellAbout 80 = .ok (.aload_n 0, 1) := by decide +kernel
theorem dX11_tellAbout_81 : decode cX11_tellAbout 81 = .ok (.getfield 16, 3) := by decide +kernel
theorem dX11_tellAbout_84 : decode cX11_tellAbout 84 = .ok (.bipush 10, 2) := by decide +kernel
theorem dX11_tellAbout_86 : decode cX11_tellAbout 86 = .ok (.iload_n 1, 1) := by decide +kernel
theorem dX11_tellAbout_87 : decode cX11_tellAbout 87 = .ok (.imul, 1) := by decide +kernel
theorem dX11_tellAbout_88 : decode cX11_tellAbout 88 = .ok (.iload_n 2, 1) := by decide +kernel
theorem dX11_tellAbout_89 : decode cX11_tellAbout 89 = .ok (.iadd, 1) := by decide +kernel
theorem dX11_tellAbout_90 : decode cX11_tellAbout 90 = .ok (.iconst 3, 1) := by decide +kernel
theorem dX11_tellAbout_91 : decode cX11_tellAbout 91 = .ok (.iadd, 1) := by decide +kernel
theorem dX11_tellAbout_92 : decode cX11_tellAbout 92 = .ok (.iaload, 1) := by decide +kernel
theorem dX11_tellAbout_93 : decode cX11_tellAbout 93 = .ok (.ireturn, 1) := by decide +kernel
theorem dX11_tellAbout_94 : decode cX11_tellAbout 94 = .ok (.aload_n 0, 1) := by decide +kernel
theorem dX11_tellAbout_95 : decode cX11_tellAbout 95 = .ok (.iload_n 1, 1) := by decide +kernel
theorem dX11_tellAbout_96 : decode cX11_tellAbout 96 = .ok (.invokevirtual 121, 3) := by decide +kernel
theorem dX11_tellAbout_99 : decode cX11_tellAbout 99 = .ok (.ireturn, 1) := by decide +kernel
theorem dX11_tellAbout_100 : decode cX11_tellAbout 100 = .ok (.iload_n 2, 1) := by decide +kernel
theorem dX11_tellAbout_101 : decode cX11_tellAbout 101 = .ok (.bipush 10, 2) := by decide +kernel
theorem dX11_tellAbout_103 : decode cX11_tellAbout 103 = .ok (.isub, 1) := by decide +kernel
theorem dX11_tellAbout_104 : decode cX11_tellAbout 104 = .ok (.aload_n 0, 1) := by decide +kernel
theorem dX11_tellAbout_105 : decode cX11_tellAbout 105 = .ok (.getfield 16, 3) := by decide +kernel
theorem dX11_tellAbout_108 : decode cX11_tellAbout 108 = .ok (.bipush 10, 2) := by decide +kernel
theorem dX11_tellAbout_110 : decode cX11_tellAbout 110 = .ok (.iload_n 1, 1) := by decide +kernel
theorem dX11_tellAbout_111 : decode cX11_tellAbout 111 = .ok (.imul, 1) := by decide +kernel
theorem dX11_tellAbout_112 : decode cX11_tellAbout 112 = .ok (.iconst 2, 1) := by decide +kernel
theorem dX11_tellAbout_113 : decode cX11_tellAbout 113 = .ok (.iadd, 1) := by decide +kernel
theorem dX11_tellAbout_114 : decode cX11_tellAbout 114 = .ok (.iaload, 1) := by decide +kernel
theorem dX11_tellAbout_115 : decode cX11_tellAbout 115 = .ok (.if_icmp .ge 20, 3) := by decide +kernel
theorem dX11_tellAbout_118 : decode cX11_tellAbout 118 = .ok (.aload_n 0, 1) := by decide +kernel
theorem dX11_tellAbout_119 : decode cX11_tellAbout 119 = .ok (.getfield 16, 3) := by decide +kernel
theorem dX11_tellAbout_122 : decode cX11_tellAbout 122 = .ok (.bipush 10, 2) := by decide +kernel
theorem dX11_tellAbout_124 : decode cX11_tellAbout 124 = .ok (.iload_n 1, 1) := by decide +kernel
theorem dX11_tellAbout_125 : decode cX11_tellAbout 125 = .ok (.imul, 1) := by decide +kernel
theorem dX11_tellAbout_126 : decode cX11_tellAbout 126 = .ok (.iload_n 2, 1) := by decide +kernel
theorem dX11_tellAbout_127 : decode cX11_tellAbout 127 = .ok (.iadd, 1) := by decide +kernel
theorem dX11_tellAbout_128 : decode cX11_tellAbout 128 = .ok (.bipush 7, 2) := by decide +kernel
theorem dX11_tellAbout_130 : decode cX11_tellAbout 130 = .ok (.isub, 1) := by decide +kernel
theorem dX11_tellAbout_131 : decode cX11_tellAbout 131 = .ok (.iaload, 1) := by decide +kernel
theorem dX11_tellAbout_132 : decode cX11_tellAbout 132 = .ok (.goto 4, 3) := by decide +kernel
theorem dX11_tellAbout_135 : decode cX11_tellAbout 135 = .ok (.iconst (-1), 1) := by decide +kernel
theorem dX11_tellAbout_136 : decode cX11_tellAbout 136 = .ok (.ireturn, 1) := by decide +kernel
theorem dX11_tellAbout_137 : decode cX11_tellAbout 137 = .ok (.bipush (-102), 2) := by decide +kernel
theorem dX11_tellAbout_139 : decode cX11_tellAbout 139 = .ok (.ireturn, 1) := by decide +kernel
theorem dX11_about_0 : decode cX11_about 0 = .ok (.aload_n 0, 1) := by decide +kernel
theorem dX11_about_1 : decode cX11_about 1 = .ok (.iload_n 1, 1) := by decide +kernel
theorem dX11_about_2 : decode cX11_about 2 = .ok (.invokevirtual 107, 3) := by decide +kernel
theorem dX11_about_5 : decode cX11_about 5 = .ok (.ifCond .eq 12, 3) := by decide +kernel
theorem dX11_about_8 : decode cX11_about 8 = .ok (.aload_n 0, 1) := by decide +kernel
theorem dX11_about_9 : decode cX11_about 9 = .ok (.iload_n 1, 1) := by decide +kernel
theorem dX11_about_10 : decode cX11_about 10 = .ok (.iload_n 2, 1) := by decide +kernel
theorem dX11_about_11 : decode cX11_about 11 = .ok (.invokevirtual 124, 3) := by decide +kernel
theorem dX11_about_14 : decode cX11_about 14 = .ok (.goto 5, 3) := by decide +kernel
theorem dX11_about_17 : decode cX11_about 17 = .ok (.bipush (-101), 2) := by decide +kernel
theorem dX11_about_19 : decode cX11_about 19 = .ok (.ireturn, 1) := by decide +kernel
theorem dX11_offset_0 : decode cX11_offset 0 = .ok (.aload_n 0, 1) := by decide +kernel
theorem dX11_offset_1 : decode cX11_offset 1 = .ok (.iload_n 1, 1) := by decide +kernel
theorem dX11_offset_2 : decode cX11_offset 2 = .ok (.invokevirtual 107, 3) := by decide +kernel
theorem dX11_offset_5 : decode cX11_offset 5 = .ok (.ifCond .ne 6, 3) := by decide +kernel
theorem dX11_offset_8 : decode cX11_offset 8 = .ok (.bipush (-101), 2) := by decide +kernel
theorem dX11_offset_10 : decode cX11_offset 10 = .ok (.ireturn, 1) := by decide +kernel
theorem dX11_offset_11 : decode cX11_offset 11 = .ok (.iload_n 2, 1) := by decide +kernel
theorem dX11_offset_12 : decode cX11_offset 12 = .ok (.i2l, 1) := by decide +kernel
theorem dX11_offset_13 : decode cX11_offset 13 = .ok (.lconst 0, 1) := by decide +kernel
theorem dX11_offset_14 : decode cX11_offset 14 = .ok (.ldc2_w 67, 3) := by decide +kernel
theorem dX11_offset_17 : decode cX11_offset 17 = .ok (.invokestatic 69, 3) := by decide +kernel
theorem dX11_offset_20 : decode cX11_offset 20 = .ok (.ifCond .ne 6, 3) := by decide +kernel
theorem dX11_offset_23 : decode cX11_offset 23 = .ok (.bipush (-102), 2) := by decide +kernel
theorem dX11_offset_25 : decode cX11_offset 25 = .ok (.ireturn, 1) := by decide +kernel
theorem dX11_offset_26 : decode cX11_offset 26 = .ok (.aload_n 0, 1) := by decide +kernel
theorem dX11_offset_27 : decode cX11_offset 27 = .ok (.getfield 16, 3) := by decide +kernel
theorem dX11_offset_30 : decode cX11_offset 30 = .ok (.bipush 10, 2) := by decide +kernel
theorem dX11_offset_32 : decode cX11_offset 32 = .ok (.iload_n 1, 1) := by decide +kernel
theorem dX11_offset_33 : decode cX11_offset 33 = .ok (.imul, 1) := by decide +kernel
theorem dX11_offset_34 : decode cX11_offset 34 = .ok (.bipush 8, 2) := by decide +kernel
theorem dX11_offset_36 : decode cX11_offset 36 = .ok (.iadd, 1) := by decide +kernel
theorem dX11_offset_37 : decode cX11_offset 37 = .ok (.iaload, 1) := by decide +kernel
theorem dX11_offset_38 : decode cX11_offset 38 = .ok (.istore_n 3, 1) := by decide +kernel
theorem dX11_offset_39 : decode cX11_offset 39 = .ok (.aload_n 0, 1) := by decide +kernel
theorem dX11_offset_40 : decode cX11_offset 40 = .ok (.getfield 16, 3) := by decide +kernel
theorem dX11_offset_43 : decode cX11_offset 43 = .ok (.bipush 10, 2) := by decide +kernel
theorem dX11_offset_45 : decode cX11_offset 45 = .ok (.iload_n 1, 1) := by decide +kernel
theorem dX11_offset_46 : decode cX11_offset 46 = .ok (.imul, 1) := by decide +kernel
theorem dX11_offset_47 : decode cX11_offset 47 = .ok (.bipush 8, 2) := by decide +kernel
theorem dX11_offset_49 : decode cX11_offset 49 = .ok (.iadd, 1) := by decide +kernel
theorem dX11_offset_50 : decode cX11_offset 50 = .ok (.iload_n 2, 1) := by decide +kernel
theorem dX11_offset_51 : decode cX11_offset 51 = .ok (.iastore, 1) := by decide +kernel
theorem dX11_offset_52 : decode cX11_offset 52 = .ok (.iload_n 3, 1) := by decide +kernel
theorem dX11_offset_53 : decode cX11_offset 53 = .ok (.ireturn, 1) := by decide +kernel
theorem dX11_frost_0 : decode cX11_frost 0 = .ok (.aload_n 0, 1) := by decide +kernel
theorem dX11_frost_1 : decode cX11_frost 1 = .ok (.getfield 112, 3) := by decide +kernel
theorem dX11_frost_4 : decode cX11_frost 4 = .ok (.istore_n 2, 1) := by decide +kernel
theorem dX11_frost_5 : decode cX11_frost 5 = .ok (.aload_n 0, 1) := by decide +kernel
theorem dX11_frost_6 : decode cX11_frost 6 = .ok (.iload_n 1, 1) := by decide +kernel
theorem dX11_frost_7 : decode cX11_frost 7 = .ok (.ifCond .eq 7, 3) := by decide +kernel
theorem dX11_frost_10 : decode cX11_frost 10 = .ok (.iconst 1, 1) := by decide +kernel
theorem dX11_frost_11 : decode cX11_frost 11 = .ok (.goto 4, 3) := by decide +kernel
theorem dX11_frost_14 : decode cX11_frost 14 = .ok (.iconst 0, 1) := by decide +kernel
theorem dX11_frost_15 : decode cX11_frost 15 = .ok (.putfield 112, 3) := by decide +kernel
theorem dX11_frost_18 : decode cX11_frost 18 = .ok (.iload_n 2, 1) := by decide +kernel
theorem dX11_frost_19 : decode cX11_frost 19 = .ok (.ireturn, 1) := by decide +kernel
theorem dX11_whereIn_0 : decode cX11_whereIn 0 = .ok (.aload_n 0, 1) := by decide +kernel
theorem dX11_whereIn_1 : decode cX11_whereIn 1 = .ok (.iload_n 1, 1) := by decide +kernel
theorem dX11_whereIn_2 : decode cX11_whereIn 2 = .ok (.invokevirtual 121, 3) := by decide +kernel
theorem dX11_whereIn_5 : decode cX11_whereIn 5 = .ok (.istore_n 3, 1) := by decide +kernel
theorem dX11_whereIn_6 : decode cX11_whereIn 6 = .ok (.iload_n 2, 1) := by decide +kernel
theorem dX11_whereIn_7 : decode cX11_whereIn 7 = .ok (.aload_n 0, 1) := by decide +kernel
theorem dX11_whereIn_8 : decode cX11_whereIn 8 = .ok (.getfield 16, 3) := by decide +kernel
theorem dX11_whereIn_11 : decode cX11_whereIn 11 = .ok (.bipush 10, 2) := by decide +kernel
theorem dX11_whereIn_13 : decode cX11_whereIn 13 = .ok (.iload_n 1, 1) := by decide +kernel
theorem dX11_whereIn_14 : decode cX11_whereIn 14 = .ok (.imul, 1) := by decide +kernel
theorem dX11_whereIn_15 : decode cX11_whereIn 15 = .ok (.bipush 8, 2) := by decide +kernel
theorem dX11_whereIn_17 : decode cX11_whereIn 17 = .ok (.iadd, 1) := by decide +kernel
theorem dX11_whereIn_18 : decode cX11_whereIn 18 = .ok (.iaload, 1) := by decide +kernel
theorem dX11_whereIn_19 : decode cX11_whereIn 19 = .ok (.iadd, 1) := by decide +kernel
theorem dX11_whereIn_20 : decode cX11_whereIn 20 = .ok (.iload_n 3, 1) := by decide +kernel
theorem dX11_whereIn_21 : decode cX11_whereIn 21 = .ok (.irem, 1) := by decide +kernel
theorem dX11_whereIn_22 : decode cX11_whereIn 22 = .ok (.iload_n 3, 1) := by decide +kernel
theorem dX11_whereIn_23 : decode cX11_whereIn 23 = .ok (.iadd, 1) := by decide +kernel
theorem dX11_whereIn_24 : decode cX11_whereIn 24 = .ok (.iload_n 3, 1) := by decide +kernel
theorem dX11_whereIn_25 : decode cX11_whereIn 25 = .ok (.irem, 1) := by decide +kernel
theorem dX11_whereIn_26 : decode cX11_whereIn 26 = .ok (.ireturn, 1) := by decide +kernel
theorem dX11_joinsNow_0 : decode cX11_joinsNow 0 = .ok (.iload_n 1, 1) := by decide +kernel
theorem dX11_joinsNow_1 : decode cX11_joinsNow 1 = .ok (.aload_n 0, 1) := by decide +kernel
theorem dX11_joinsNow_2 : decode cX11_joinsNow 2 = .ok (.getfield 56, 3) := by decide +kernel
theorem dX11_joinsNow_5 : decode cX11_joinsNow 5 = .ok (.if_icmp .ne 5, 3) := by decide +kernel
theorem dX11_joinsNow_8 : decode cX11_joinsNow 8 = .ok (.iconst (-1), 1) := by decide +kernel
theorem dX11_joinsNow_9 : decode cX11_joinsNow 9 = .ok (.ireturn, 1) := by decide +kernel
theorem dX11_joinsNow_10 : decode cX11_joinsNow 10 = .ok (.iload_n 1, 1) := by decide +kernel
theorem dX11_joinsNow_11 : decode cX11_joinsNow 11 = .ok (.aload_n 0, 1) := by decide +kernel
theorem dX11_joinsNow_12 : decode cX11_joinsNow 12 = .ok (.getfield 59, 3) := by decide +kernel
theorem dX11_joinsNow_15 : decode cX11_joinsNow 15 = .ok (.if_icmp .ne 20, 3) := by decide +kernel
theorem dX11_joinsNow_18 : decode cX11_joinsNow 18 = .ok (.aload_n 0, 1) := by decide +kernel
theorem dX11_joinsNow_19 : decode cX11_joinsNow 19 = .ok (.getfield 16, 3) := by decide +kernel
theorem dX11_joinsNow_22 : decode cX11_joinsNow 22 = .ok (.bipush 10, 2) := by decide +kernel
theorem dX11_joinsNow_24 : decode cX11_joinsNow 24 = .ok (.iload_n 1, 1) := by decide +kernel
theorem dX11_joinsNow_25 : decode cX11_joinsNow 25 = .ok (.imul, 1) := by decide +kernel
theorem dX11_joinsNow_26 : decode cX11_joinsNow 26 = .ok (.iconst 3, 1) := by decide +kernel
theorem dX11_joinsNow_27 : decode cX11_joinsNow 27 = .ok (.iadd, 1) := by decide +kernel
theorem dX11_joinsNow_28 : decode cX11_joinsNow 28 = .ok (.aload_n 0, 1) := by decide +kernel
theorem dX11_joinsNow_29 : decode cX11_joinsNow 29 = .ok (.getfield 128, 3) := by decide +kernel
theorem dX11_joinsNow_32 : decode cX11_joinsNow 32 = .ok (.iadd, 1) := by decide +kernel
theorem dX11_joinsNow_33 : decode cX11_joinsNow 33 = .ok (.iaload, 1) := by decide +kernel
theorem dX11_joinsNow_34 : decode cX11_joinsNow 34 = .ok (.ireturn, 1) := by decide +kernel
theorem dX11_joinsNow_35 : decode cX11_joinsNow 35 = .ok (.aload_n 0, 1) := by decide +kernel
theorem dX11_joinsNow_36 : decode cX11_joinsNow 36 = .ok (.getfield 16, 3) := by decide +kernel
theorem dX11_joinsNow_39 : decode cX11_joinsNow 39 = .ok (.bipush 10, 2) := by decide +kernel
theorem dX11_joinsNow_41 : decode cX11_joinsNow 41 = .ok (.iload_n 1, 1) := by decide +kernel
theorem dX11_joinsNow_42 : decode cX11_joinsNow 42 = .ok (.imul, 1) := by decide +kernel
theorem dX11_joinsNow_43 : decode cX11_joinsNow 43 = .ok (.iaload, 1) := by decide +kernel
theorem dX11_joinsNow_44 : decode cX11_joinsNow 44 = .ok (.iconst 3, 1) := by decide +kernel
theorem dX11_joinsNow_45 : decode cX11_joinsNow 45 = .ok (.if_icmp .ne 15, 3) := by decide +kernel
theorem dX11_joinsNow_48 : decode cX11_joinsNow 48 = .ok (.aload_n 0, 1) := by decide +kernel
theorem dX11_joinsNow_49 : decode cX11_joinsNow 49 = .ok (.getfield 16, 3) := by decide +kernel
theorem dX11_joinsNow_52 : decode cX11_joinsNow 52 = .ok (.bipush 10, 2) := by decide +kernel
theorem dX11_joinsNow_54 : decode cX11_joinsNow 54 = .ok (.iload_n 1, 1) := by decide +kernel
theorem dX11_joinsNow_55 : decode cX11_joinsNow 55 = .ok (.imul, 1) := by decide +kernel
theorem dX11_joinsNow_56 : decode cX11_joinsNow 56 = .ok (.iconst 3, 1) := by decide +kernel
theorem dX11_joinsNow_57 : decode cX11_joinsNow 57 = .ok (.iadd, 1) := by decide +kernel
theorem dX11_joinsNow_58 : decode cX11_joinsNow 58 = .ok (.iaload, 1) := by decide +kernel
theorem dX11_joinsNow_59 : decode cX11_joinsNow 59 = .ok (.ireturn, 1) := by decide +kernel
theorem dX11_joinsNow_60 : decode cX11_joinsNow 60 = .ok (.aload_n 0, 1) := by decide +kernel
theorem dX11_joinsNow_61 : decode cX11_joinsNow 61 = .ok (.iload_n 1, 1) := by decide +kernel
theorem dX11_joinsNow_62 : decode cX11_joinsNow 62 = .ok (.iload_n 2, 1) := by decide +kernel
theorem dX11_joinsNow_63 : decode cX11_joinsNow 63 = .ok (.invokevirtual 131, 3) := by decide +kernel
theorem dX11_joinsNow_66 : decode cX11_joinsNow 66 = .ok (.istore_n 3, 1) := by decide +kernel
theorem dX11_joinsNow_67 : decode cX11_joinsNow 67 = .ok (.iload_n 3, 1) := by decide +kernel
theorem dX11_joinsNow_68 : decode cX11_joinsNow 68 = .ok (.aload_n 0, 1) := by decide +kernel
theorem dX11_joinsNow_69 : decode cX11_joinsNow 69 = .ok (.iload_n 1, 1) := by decide +kernel
theorem dX11_joinsNow_70 : decode cX11_joinsNow 70 = .ok (.invokevirtual 118, 3) := by decide +kernel
theorem dX11_joinsNow_73 : decode cX11_joinsNow 73 = .ok (.idiv, 1) := by decide +kernel
theorem dX11_joinsNow_74 : decode cX11_joinsNow 74 = .ok (.istore 4, 2) := by decide +kernel
theorem dX11_joinsNow_76 : decode cX11_joinsNow 76 = .ok (.aload_n 0, 1) := by decide +kernel
theorem dX11_joinsNow_77 : decode cX11_joinsNow 77 = .ok (.getfield 16, 3) := by decide +kernel
theorem dX11_joinsNow_80 : decode cX11_joinsNow 80 = .ok (.bipush 10, 2) := by decide +kernel
theorem dX11_joinsNow_82 : decode cX11_joinsNow 82 = .ok (.iload_n 1, 1) := by decide +kernel
theorem dX11_joinsNow_83 : decode cX11_joinsNow 83 = .ok (.imul, 1) := by decide +kernel
theorem dX11_joinsNow_84 : decode cX11_joinsNow 84 = .ok (.iconst 2, 1) := by decide +kernel
theorem dX11_joinsNow_85 : decode cX11_joinsNow 85 = .ok (.iadd, 1) := by decide +kernel
theorem dX11_joinsNow_86 : decode cX11_joinsNow 86 = .ok (.iaload, 1) := by decide +kernel
theorem dX11_joinsNow_87 : decode cX11_joinsNow 87 = .ok (.istore 5, 2) := by decide +kernel
theorem dX11_joinsNow_89 : decode cX11_joinsNow 89 = .ok (.iload 4, 2) := by decide +kernel
theorem dX11_joinsNow_91 : decode cX11_joinsNow 91 = .ok (.iload 5, 2) := by decide +kernel
theorem dX11_joinsNow_93 : decode cX11_joinsNow 93 = .ok (.if_icmp .ge 8, 3) := by decide +kernel
theorem dX11_joinsNow_96 : decode cX11_joinsNow 96 = .ok (.iload 4, 2) := by decide +kernel
theorem dX11_joinsNow_98 : decode cX11_joinsNow 98 = .ok (.goto 12, 3) := by decide +kernel
theorem dX11_joinsNow_101 : decode cX11_joinsNow 101 = .ok (.iconst 2, 1) := by decide +kernel
theorem dX11_joinsNow_102 : decode cX11_joinsNow 102 = .ok (.iload 5, 2) := by decide +kernel
theorem dX11_joinsNow_104 : decode cX11_joinsNow 104 = .ok (.imul, 1) := by decide +kernel
theorem dX11_joinsNow_105 : decode cX11_joinsNow 105 = .ok (.iconst 2, 1) := by decide +kernel
theorem dX11_joinsNow_106 : decode cX11_joinsNow 106 = .ok (.isub, 1) := by decide +kernel
theorem dX11_joinsNow_107 : decode cX11_joinsNow 107 = .ok (.iload 4, 2) := by decide +kernel
theorem dX11_joinsNow_109 : decode cX11_joinsNow 109 = .ok (.isub, 1) := by decide +kernel
theorem dX11_joinsNow_110 : decode cX11_joinsNow 110 = .ok (.istore 6, 2) := by decide +kernel
theorem dX11_joinsNow_112 : decode cX11_joinsNow 112 = .ok (.iload_n 3, 1) := by decide +kernel
theorem dX11_joinsNow_113 : decode cX11_joinsNow 113 = .ok (.aload_n 0, 1) := by decide +kernel
theorem dX11_joinsNow_114 : decode cX11_joinsNow 114 = .ok (.iload_n 1, 1) := by decide +kernel
theorem dX11_joinsNow_115 : decode cX11_joinsNow 115 = .ok (.invokevirtual 118, 3) := by decide +kernel
theorem dX11_joinsNow_118 : decode cX11_joinsNow 118 = .ok (.irem, 1) := by decide +kernel
theorem dX11_joinsNow_119 : decode cX11_joinsNow 119 = .ok (.aload_n 0, 1) := by decide +kernel
theorem dX11_joinsNow_120 : decode cX11_joinsNow 120 = .ok (.getfield 16, 3) := by decide +kernel
theorem dX11_joinsNow_123 : decode cX11_joinsNow 123 = .ok (.bipush 10, 2) := by decide +kernel
theorem dX11_joinsNow_125 : decode cX11_joinsNow 125 = .ok (.iload_n 1, 1) := by decide +kernel
theorem dX11_joinsNow_126 : decode cX11_joinsNow 126 = .ok (.imul, 1) := by decide +kernel
theorem dX11_joinsNow_127 : decode cX11_joinsNow 127 = .ok (.bipush 6, 2) := by decide +kernel
theorem dX11_joinsNow_129 : decode cX11_joinsNow 129 = .ok (.iadd, 1) := by decide +kernel
theorem dX11_joinsNow_130 : decode cX11_joinsNow 130 = .ok (.iaload, 1) := by decide +kernel
theorem dX11_joinsNow_131 : decode cX11_joinsNow 131 = .ok (.if_icmp .ge 20, 3) := by decide +kernel
theorem dX11_joinsNow_134 : decode cX11_joinsNow 134 = .ok (.aload_n 0, 1) := by decide +kernel
theorem dX11_joinsNow_135 : decode cX11_joinsNow 135 = .ok (.getfield 16, 3) := by decide +kernel
theorem dX11_joinsNow_138 : decode cX11_joinsNow 138 = .ok (.bipush 10, 2) := by decide +kernel
theorem dX11_joinsNow_140 : decode cX11_joinsNow 140 = .ok (.iload_n 1, 1) := by decide +kernel
theorem dX11_joinsNow_141 : decode cX11_joinsNow 141 = .ok (.imul, 1) := by decide +kernel
theorem dX11_joinsNow_142 : decode cX11_joinsNow 142 = .ok (.iconst 3, 1) := by decide +kernel
theorem dX11_joinsNow_143 : decode cX11_joinsNow 143 = .ok (.iadd, 1) := by decide +kernel
theorem dX11_joinsNow_144 : decode cX11_joinsNow 144 = .ok (.iload 6, 2) := by decide +kernel
theorem dX11_joinsNow_146 : decode cX11_joinsNow 146 = .ok (.iadd, 1) := by decide +kernel
theorem dX11_joinsNow_147 : decode cX11_joinsNow 147 = .ok (.iaload, 1) := by decide +kernel
theorem dX11_joinsNow_148 : decode cX11_joinsNow 148 = .ok (.goto 4, 3) := by decide +kernel
theorem dX11_joinsNow_151 : decode cX11_joinsNow 151 = .ok (.iconst (-1), 1) := by decide +kernel
theorem dX11_joinsNow_152 : decode cX11_joinsNow 152 = .ok (.ireturn, 1) := by decide +kernel
theorem dX11_lastsNow_0 : decode cX11_lastsNow 0 = .ok (.aload_n 0, 1) := by decide +kernel
theorem dX11_lastsNow_1 : decode cX11_lastsNow 1 = .ok (.iload_n 1, 1) := by decide +kernel
theorem dX11_lastsNow_2 : decode cX11_lastsNow 2 = .ok (.iload_n 2, 1) := by decide +kernel
theorem dX11_lastsNow_3 : decode cX11_lastsNow 3 = .ok (.invokevirtual 134, 3) := by decide +kernel
theorem dX11_lastsNow_6 : decode cX11_lastsNow 6 = .ok (.iconst (-1), 1) := by decide +kernel
theorem dX11_lastsNow_7 : decode cX11_lastsNow 7 = .ok (.if_icmp .ne 5, 3) := by decide +kernel
theorem dX11_lastsNow_10 : decode cX11_lastsNow 10 = .ok (.iconst 0, 1) := by decide +kernel
theorem dX11_lastsNow_11 : decode cX11_lastsNow 11 = .ok (.ireturn, 1) := by decide +kernel
theorem dX11_lastsNow_12 : decode cX11_lastsNow 12 = .ok (.iload_n 1, 1) := by decide +kernel
theorem dX11_lastsNow_13 : decode cX11_lastsNow 13 = .ok (.aload_n 0, 1) := by decide +kernel
theorem dX11_lastsNow_14 : decode cX11_lastsNow 14 = .ok (.getfield 59, 3) := by decide +kernel
theorem dX11_lastsNow_17 : decode cX11_lastsNow 17 = .ok (.if_icmp .eq 16, 3) := by decide +kernel
theorem dX11_lastsNow_20 : decode cX11_lastsNow 20 = .ok (.aload_n 0, 1) := by decide +kernel
theorem dX11_lastsNow_21 : decode cX11_lastsNow 21 = .ok (.getfield 16, 3) := by decide +kernel
theorem dX11_lastsNow_24 : decode cX11_lastsNow 24 = .ok (.bipush 10, 2) := by decide +kernel
theorem dX11_lastsNow_26 : decode cX11_lastsNow 26 = .ok (.iload_n 1, 1) := by decide +kernel
theorem dX11_lastsNow_27 : decode cX11_lastsNow 27 = .ok (.imul, 1) := by decide +kernel
theorem dX11_lastsNow_28 : decode cX11_lastsNow 28 = .ok (.iaload, 1) := by decide +kernel
theorem dX11_lastsNow_29 : decode cX11_lastsNow 29 = .ok (.iconst 3, 1) := by decide +kernel
theorem dX11_lastsNow_30 : decode cX11_lastsNow 30 = .ok (.if_icmp .ne 7, 3) := by decide +kernel
theorem dX11_lastsNow_33 : decode cX11_lastsNow 33 = .ok (.sipush 999, 3) := by decide +kernel
theorem dX11_lastsNow_36 : decode cX11_lastsNow 36 = .ok (.ireturn, 1) := by decide +kernel
theorem dX11_lastsNow_37 : decode cX11_lastsNow 37 = .ok (.aload_n 0, 1) := by decide +kernel
theorem dX11_lastsNow_38 : decode cX11_lastsNow 38 = .ok (.getfield 16, 3) := by decide +kernel
theorem dX11_lastsNow_41 : decode cX11_lastsNow 41 = .ok (.bipush 10, 2) := by decide +kernel
theorem dX11_lastsNow_43 : decode cX11_lastsNow 43 = .ok (.iload_n 1, 1) := by decide +kernel
theorem dX11_lastsNow_44 : decode cX11_lastsNow 44 = .ok (.imul, 1) := by decide +kernel
theorem dX11_lastsNow_45 : decode cX11_lastsNow 45 = .ok (.bipush 6, 2) := by decide +kernel
theorem dX11_lastsNow_47 : decode cX11_lastsNow 47 = .ok (.iadd, 1) := by decide +kernel
theorem dX11_lastsNow_48 : decode cX11_lastsNow 48 = .ok (.iaload, 1) := by decide +kernel
theorem dX11_lastsNow_49 : decode cX11_lastsNow 49 = .ok (.aload_n 0, 1) := by decide +kernel
theorem dX11_lastsNow_50 : decode cX11_lastsNow 50 = .ok (.iload_n 1, 1) := by decide +kernel
theorem dX11_lastsNow_51 : decode cX11_lastsNow 51 = .ok (.iload_n 2, 1) := by decide +kernel
theorem dX11_lastsNow_52 : decode cX11_lastsNow 52 = .ok (.invokevirtual 131, 3) := by decide +kernel
theorem dX11_lastsNow_55 : decode cX11_lastsNow 55 = .ok (.aload_n 0, 1) := by decide +kernel
theorem dX11_lastsNow_56 : decode cX11_lastsNow 56 = .ok (.iload_n 1, 1) := by decide +kernel
theorem dX11_lastsNow_57 : decode cX11_lastsNow 57 = .ok (.invokevirtual 118, 3) := by decide +kernel
theorem dX11_lastsNow_60 : decode cX11_lastsNow 60 = .ok (.irem, 1) := by decide +kernel
theorem dX11_lastsNow_61 : decode cX11_lastsNow 61 = .ok (.isub, 1) := by decide +kernel
theorem dX11_lastsNow_62 : decode cX11_lastsNow 62 = .ok (.ireturn, 1) := by decide +kernel
theorem dX11_joins_0 : decode cX11_joins 0 = .ok (.aload_n 0, 1) := by decide +kernel
theorem dX11_joins_1 : decode cX11_joins 1 = .ok (.iload_n 1, 1) := by decide +kernel
theorem dX11_joins_2 : decode cX11_joins 2 = .ok (.invokevirtual 107, 3) := by decide +kernel
theorem dX11_joins_5 : decode cX11_joins 5 = .ok (.ifCond .ne 6, 3) := by decide +kernel
theorem dX11_joins_8 : decode cX11_joins 8 = .ok (.bipush (-101), 2) := by decide +kernel
theorem dX11_joins_10 : decode cX11_joins 10 = .ok (.ireturn, 1) := by decide +kernel
theorem dX11_joins_11 : decode cX11_joins 11 = .ok (.iload_n 2, 1) := by decide +kernel
theorem dX11_joins_12 : decode cX11_joins 12 = .ok (.i2l, 1) := by decide +kernel
theorem dX11_joins_13 : decode cX11_joins 13 = .ok (.lconst 0, 1) := by decide +kernel
theorem dX11_joins_14 : decode cX11_joins 14 = .ok (.ldc2_w 137, 3) := by decide +kernel
theorem dX11_joins_17 : decode cX11_joins 17 = .ok (.invokestatic 69, 3) := by decide +kernel
theorem dX11_joins_20 : decode cX11_joins 20 = .ok (.ifCond .eq 12, 3) := by decide +kernel
theorem dX11_joins_23 : decode cX11_joins 23 = .ok (.aload_n 0, 1) := by decide +kernel
theorem dX11_joins_24 : decode cX11_joins 24 = .ok (.iload_n 1, 1) := by decide +kernel
theorem dX11_joins_25 : decode cX11_joins 25 = .ok (.iload_n 2, 1) := by decide +kernel
theorem dX11_joins_26 : decode cX11_joins 26 = .ok (.invokevirtual 134, 3) := by decide +kernel
theorem dX11_joins_29 : decode cX11_joins 29 = .ok (.goto 5, 3) := by decide +kernel
theorem dX11_joins_32 : decode cX11_joins 32 = .ok (.bipush (-102), 2) := by decide +kernel
theorem dX11_joins_34 : decode cX11_joins 34 = .ok (.ireturn, 1) := by decide +kernel
theorem dX11_lasts_0 : decode cX11_lasts 0 = .ok (.aload_n 0, 1) := by decide +kernel
theorem dX11_lasts_1 : decode cX11_lasts 1 = .ok (.iload_n 1, 1) := by decide +kernel
theorem dX11_lasts_2 : decode cX11_lasts 2 = .ok (.invokevirtual 107, 3) := by decide +kernel
theorem dX11_lasts_5 : decode cX11_lasts 5 = .ok (.ifCond .ne 6, 3) := by decide +kernel
theorem dX11_lasts_8 : decode cX11_lasts 8 = .ok (.bipush (-101), 2) := by decide +kernel
theorem dX11_lasts_10 : decode cX11_lasts 10 = .ok (.ireturn, 1) := by decide +kernel
theorem dX11_lasts_11 : decode cX11_lasts 11 = .ok (.iload_n 2, 1) := by decide +kernel
theorem dX11_lasts_12 : decode cX11_lasts 12 = .ok (.i2l, 1) := by decide +kernel
theorem dX11_lasts_13 : decode cX11_lasts 13 = .ok (.lconst 0, 1) := by decide +kernel
theorem dX11_lasts_14 : decode cX11_lasts 14 = .ok (.ldc2_w 137, 3) := by decide +kernel
theorem dX11_lasts_17 : decode cX11_lasts 17 = .ok (.invokestatic 69, 3) := by decide +kernel
theorem dX11_lasts_20 : decode cX11_lasts 20 = .ok (.ifCond .eq 12, 3) := by decide +kernel
theorem dX11_lasts_23 : decode cX11_lasts 23 = .ok (.aload_n 0, 1) := by decide +kernel
theorem dX11_lasts_24 : decode cX11_lasts 24 = .ok (.iload_n 1, 1) := by decide +kernel
theorem dX11_lasts_25 : decode cX11_lasts 25 = .ok (.iload_n 2, 1) := by decide +kernel
theorem dX11_lasts_26 : decode cX11_lasts 26 = .ok (.invokevirtual 139, 3) := by decide +kernel
theorem dX11_lasts_29 : decode cX11_lasts 29 = .ok (.goto 5, 3) := by decide +kernel
theorem dX11_lasts_32 : decode cX11_lasts 32 = .ok (.bipush (-102), 2) := by decide +kernel
theorem dX11_lasts_34 : decode cX11_lasts 34 = .ok (.ireturn, 1) := by decide +kernel
theorem dX11_mayGo_0 : decode cX11_mayGo 0 = .ok (.aload_n 0, 1) := by decide +kernel
theorem dX11_mayGo_1 : decode cX11_mayGo 1 = .ok (.getfield 16, 3) := by decide +kernel
theorem dX11_mayGo_4 : decode cX11_mayGo 4 = .ok (.bipush 10, 2) := by decide +kernel
theorem dX11_mayGo_6 : decode cX11_mayGo 6 = .ok (.iload_n 1, 1) := by decide +kernel
theorem dX11_mayGo_7 : decode cX11_mayGo 7 = .ok (.imul, 1) := by decide +kernel
theorem dX11_mayGo_8 : decode cX11_mayGo 8 = .ok (.bipush 9, 2) := by decide +kernel
theorem dX11_mayGo_10 : decode cX11_mayGo 10 = .ok (.iadd, 1) := by decide +kernel
theorem dX11_mayGo_11 : decode cX11_mayGo 11 = .ok (.iaload, 1) := by decide +kernel
theorem dX11_mayGo_12 : decode cX11_mayGo 12 = .ok (.iload 4, 2) := by decide +kernel
theorem dX11_mayGo_14 : decode cX11_mayGo 14 = .ok (.if_icmp .lt 17, 3) := by decide +kernel
theorem dX11_mayGo_17 : decode cX11_mayGo 17 = .ok (.aload_n 0, 1) := by decide +kernel
theorem dX11_mayGo_18 : decode cX11_mayGo 18 = .ok (.iload_n 1, 1) := by decide +kernel
theorem dX11_mayGo_19 : decode cX11_mayGo 19 = .ok (.iload_n 2, 1) := by decide +kernel
theorem dX11_mayGo_20 : decode cX11_mayGo 20 = .ok (.invokevirtual 139, 3) := by decide +kernel
theorem dX11_mayGo_23 : decode cX11_mayGo 23 = .ok (.iload_n 3, 1) := by decide +kernel
theorem dX11_mayGo_24 : decode cX11_mayGo 24 = .ok (.if_icmp .lt 7, 3) := by decide +kernel
theorem dX11_mayGo_27 : decode cX11_mayGo 27 = .ok (.iconst 1, 1) := by decide +kernel
theorem dX11_mayGo_28 : decode cX11_mayGo 28 = .ok (.goto 4, 3) := by decide +kernel
theorem dX11_mayGo_31 : decode cX11_mayGo 31 = .ok (.iconst 0, 1) := by decide +kernel
theorem dX11_mayGo_32 : decode cX11_mayGo 32 = .ok (.ireturn, 1) := by decide +kernel
theorem dX11_layThere_0 : decode cX11_layThere 0 = .ok (.iconst 0, 1) := by decide +kernel
theorem dX11_layThere_1 : decode cX11_layThere 1 = .ok (.istore 5, 2) := by decide +kernel
theorem dX11_layThere_3 : decode cX11_layThere 3 = .ok (.iload 5, 2) := by decide +kernel
theorem dX11_layThere_5 : decode cX11_layThere 5 = .ok (.bipush 8, 2) := by decide +kernel
theorem dX11_layThere_7 : decode cX11_layThere 7 = .ok (.if_icmp .ge 28, 3) := by decide +kernel
theorem dX11_layThere_10 : decode cX11_layThere 10 = .ok (.aload_n 0, 1) := by decide +kernel
theorem dX11_layThere_11 : decode cX11_layThere 11 = .ok (.getfield 19, 3) := by decide +kernel
theorem dX11_layThere_14 : decode cX11_layThere 14 = .ok (.iload 5, 2) := by decide +kernel
theorem dX11_layThere_16 : decode cX11_layThere 16 = .ok (.iload 5, 2) := by decide +kernel
theorem dX11_layThere_18 : decode cX11_layThere 18 = .ok (.iload_n 1, 1) := by decide +kernel
theorem dX11_layThere_19 : decode cX11_layThere 19 = .ok (.if_icmp .ne 7, 3) := by decide +kernel
theorem dX11_layThere_22 : decode cX11_layThere 22 = .ok (.iload_n 2, 1) := by decide +kernel
theorem dX11_layThere_23 : decode cX11_layThere 23 = .ok (.goto 5, 3) := by decide +kernel
theorem dX11_layThere_26 : decode cX11_layThere 26 = .ok (.ldc 142, 2) := by decide +kernel
theorem dX11_layThere_28 : decode cX11_layThere 28 = .ok (.iastore, 1) := by decide +kernel
theorem dX11_layThere_29 : decode cX11_layThere 29 = .ok (.iinc 5 1, 3) := by decide +kernel
theorem dX11_layThere_32 : decode cX11_layThere 32 = .ok (.goto (-29), 3) := by decide +kernel
theorem dX11_layThere_35 : decode cX11_layThere 35 = .ok (.iload_n 2, 1) := by decide +kernel
theorem dX11_layThere_36 : decode cX11_layThere 36 = .ok (.istore 5, 2) := by decide +kernel
theorem dX11_layThere_38 : decode cX11_layThere 38 = .ok (.iload 5, 2) := by decide +kernel
theorem dX11_layThere_40 : decode cX11_layThere 40 = .ok (.iload_n 2, 1) := by decide +kernel
theorem dX11_layThere_41 : decode cX11_layThere 41 = .ok (.sipush 400, 3) := by decide +kernel
theorem dX11_layThere_44 : decode cX11_layThere 44 = .ok (.iadd, 1) := by decide +kernel
theorem dX11_layThere_45 : decode cX11_layThere 45 = .ok (.if_icmp .ge 201, 3) := by decide +kernel
theorem dX11_layThere_48 : decode cX11_layThere 48 = .ok (.iconst 0, 1) := by decide +kernel
theorem dX11_layThere_49 : decode cX11_layThere 49 = .ok (.istore 6, 2) := by decide +kernel
theorem dX11_layThere_51 : decode cX11_layThere 51 = .ok (.iload 6, 2) := by decide +kernel
theorem dX11_layThere_53 : decode cX11_layThere 53 = .ok (.aload_n 0, 1) := by decide +kernel
theorem dX11_layThere_54 : decode cX11_layThere 54 = .ok (.getfield 104, 3) := by decide +kernel
theorem dX11_layThere_57 : decode cX11_layThere 57 = .ok (.if_icmp .ge 183, 3) := by decide +kernel
theorem dX11_layThere_60 : decode cX11_layThere 60 = .ok (.aload_n 0, 1) := by decide +kernel
theorem dX11_layThere_61 : decode cX11_layThere 61 = .ok (.iload 6, 2) := by decide +kernel
theorem dX11_layThere_63 : decode cX11_layThere 63 = .ok (.iload 5, 2) := by decide +kernel
theorem dX11_layThere_65 : decode cX11_layThere 65 = .ok (.iload_n 3, 1) := by decide +kernel
theorem dX11_layThere_66 : decode cX11_layThere 66 = .ok (.iload 4, 2) := by decide +kernel
theorem dX11_layThere_68 : decode cX11_layThere 68 = .ok (.invokevirtual 143, 3) := by decide +kernel
theorem dX11_layThere_71 : decode cX11_layThere 71 = .ok (.ifCond .eq 163, 3) := by decide +kernel
theorem dX11_layThere_74 : decode cX11_layThere 74 = .ok (.aload_n 0, 1) := by decide +kernel
theorem dX11_layThere_75 : decode cX11_layThere 75 = .ok (.getfield 16, 3) := by decide +kernel
theorem dX11_layThere_78 : decode cX11_layThere 78 = .ok (.bipush 10, 2) := by decide +kernel
theorem dX11_layThere_80 : decode cX11_layThere 80 = .ok (.iload 6, 2) := by decide +kernel
theorem dX11_layThere_82 : decode cX11_layThere 82 = .ok (.imul, 1) := by decide +kernel
theorem dX11_layThere_83 : decode cX11_layThere 83 = .ok (.iconst 1, 1) := by decide +kernel
theorem dX11_layThere_84 : decode cX11_layThere 84 = .ok (.iadd, 1) := by decide +kernel
theorem dX11_layThere_85 : decode cX11_layThere 85 = .ok (.iaload, 1) := by decide +kernel
theorem dX11_layThere_86 : decode cX11_layThere 86 = .ok (.istore 7, 2) := by decide +kernel
theorem dX11_layThere_88 : decode cX11_layThere 88 = .ok (.aload_n 0, 1) := by decide +kernel
theorem dX11_layThere_89 : decode cX11_layThere 89 = .ok (.iload 6, 2) := by decide +kernel
theorem dX11_layThere_91 : decode cX11_layThere 91 = .ok (.iload 5, 2) := by decide +kernel
theorem dX11_layThere_93 : decode cX11_layThere 93 = .ok (.invokevirtual 134, 3) := by decide +kernel
theorem dX11_layThere_96 : decode cX11_layThere 96 = .ok (.istore 8, 2) := by decide +kernel
theorem dX11_layThere_98 : decode cX11_layThere 98 = .ok (.iload 5, 2) := by decide +kernel
theorem dX11_layThere_100 : decode cX11_layThere 100 = .ok (.iload_n 3, 1) := by decide +kernel
theorem dX11_layThere_101 : decode cX11_layThere 101 = .ok (.iadd, 1) := by decide +kernel
theorem dX11_layThere_102 : decode cX11_layThere 102 = .ok (.istore 9, 2) := by decide +kernel
theorem dX11_layThere_104 : decode cX11_layThere 104 = .ok (.aload_n 0, 1) := by decide +kernel
theorem dX11_layThere_105 : decode cX11_layThere 105 = .ok (.getfield 19, 3) := by decide +kernel
theorem dX11_layThere_108 : decode cX11_layThere 108 = .ok (.iload 7, 2) := by decide +kernel
theorem dX11_layThere_110 : decode cX11_layThere 110 = .ok (.iaload, 1) := by decide +kernel
theorem dX11_layThere_111 : decode cX11_layThere 111 = .ok (.iload 5, 2) := by decide +kernel
theorem dX11_layThere_113 : decode cX11_layThere 113 = .ok (.if_icmp .gt 29, 3) := by decide +kernel
theorem dX11_layThere_116 : decode cX11_layThere 116 = .ok (.iload 9, 2) := by decide +kernel
theorem dX11_layThere_118 : decode cX11_layThere 118 = .ok (.aload_n 0, 1) := by decide +kernel
theorem dX11_layThere_119 : decode cX11_layThere 119 = .ok (.getfield 19, 3) := by decide +kernel
theorem dX11_layThere_122 : decode cX11_layThere 122 = .ok (.iload 8, 2) := by decide +kernel
theorem dX11_layThere_124 : decode cX11_layThere 124 = .ok (.iaload, 1) := by decide +kernel
theorem dX11_layThere_125 : decode cX11_layThere 125 = .ok (.if_icmp .ge 17, 3) := by decide +kernel
theorem dX11_layThere_128 : decode cX11_layThere 128 = .ok (.iload 9, 2) := by decide +kernel
theorem dX11_layThere_130 : decode cX11_layThere 130 = .ok (.iload_n 2, 1) := by decide +kernel
theorem dX11_layThere_131 : decode cX11_layThere 131 = .ok (.sipush 400, 3) := by decide +kernel
theorem dX11_layThere_134 : decode cX11_layThere 134 = .ok (.iadd, 1) := by decide +kernel
theorem dX11_layThere_135 : decode cX11_layThere 135 = .ok (.if_icmp .gt 7, 3) := by decide +kernel
theorem dX11_layThere_138 : decode cX11_layThere 138 = .ok (.iconst 1, 1) := by decide +kernel
theorem dX11_layThere_139 : decode cX11_layThere 139 = .ok (.goto 4, 3) := by decide +kernel
theorem dX11_layThere_142 : decode cX11_layThere 142 = .ok (.iconst 0, 1) := by decide +kernel
theorem dX11_layThere_143 : decode cX11_layThere 143 = .ok (.istore 10, 2) := by decide +kernel
theorem dX11_layThere_145 : decode cX11_layThere 145 = .ok (.aload_n 0, 1) := by decide +kernel
theorem dX11_layThere_146 : decode cX11_layThere 146 = .ok (.getfield 19, 3) := by decide +kernel
theorem dX11_layThere_149 : decode cX11_layThere 149 = .ok (.iload 8, 2) := by decide +kernel
theorem dX11_layThere_151 : decode cX11_layThere 151 = .ok (.iaload, 1) := by decide +kernel
theorem dX11_layThere_152 : decode cX11_layThere 152 = .ok (.iload 5, 2) := by decide +kernel
theorem dX11_layThere_154 : decode cX11_layThere 154 = .ok (.if_icmp .gt 29, 3) := by decide +kernel
theorem dX11_layThere_157 : decode cX11_layThere 157 = .ok (.iload 9, 2) := by decide +kernel
theorem dX11_layThere_159 : decode cX11_layThere 159 = .ok (.aload_n 0, 1) := by decide +kernel
theorem dX11_layThere_160 : decode cX11_layThere 160 = .ok (.getfield 19, 3) := by decide +kernel
theorem dX11_layThere_163 : decode cX11_layThere 163 = .ok (.iload 7, 2) := by decide +kernel
theorem dX11_layThere_165 : decode cX11_layThere 165 = .ok (.iaload, 1) := by decide +kernel
theorem dX11_layThere_166 : decode cX11_layThere 166 = .ok (.if_icmp .ge 17, 3) := by decide +kernel
theorem dX11_layThere_169 : decode cX11_layThere 169 = .ok (.iload 9, 2) := by decide +kernel
theorem dX11_layThere_171 : decode cX11_layThere 171 = .ok (.iload_n 2, 1) := by decide +kernel
theorem dX11_layThere_172 : decode cX11_layThere 172 = .ok (.sipush 400, 3) := by decide +kernel
theorem dX11_layThere_175 : decode cX11_layThere 175 = .ok (.iadd, 1) := by decide +kernel
theorem dX11_layThere_176 : decode cX11_layThere 176 = .ok (.if_icmp .gt 7, 3) := by decide +kernel
theorem dX11_layThere_179 : decode cX11_layThere 179 = .ok (.iconst 1, 1) := by decide +kernel
theorem dX11_layThere_180 : decode cX11_layThere 180 = .ok (.goto 4, 3) := by decide +kernel
theorem dX11_layThere_183 : decode cX11_layThere 183 = .ok (.iconst 0, 1) := by decide +kernel
theorem dX11_layThere_184 : decode cX11_layThere 184 = .ok (.istore 11, 2) := by decide +kernel
theorem dX11_layThere_186 : decode cX11_layThere 186 = .ok (.aload_n 0, 1) := by decide +kernel
theorem dX11_layThere_187 : decode cX11_layThere 187 = .ok (.getfield 19, 3) := by decide +kernel
theorem dX11_layThere_190 : decode cX11_layThere 190 = .ok (.iload 8, 2) := by decide +kernel
theorem dX11_layThere_192 : decode cX11_layThere 192 = .ok (.iload 10, 2) := by decide +kernel
theorem dX11_layThere_194 : decode cX11_layThere 194 = .ok (.ifCond .eq 8, 3) := by decide +kernel
theorem dX11_layThere_197 : decode cX11_layThere 197 = .ok (.iload 9, 2) := by decide +kernel
theorem dX11_layThere_199 : decode cX11_layThere 199 = .ok (.goto 10, 3) := by decide +kernel
theorem dX11_layThere_202 : decode cX11_layThere 202 = .ok (.aload_n 0, 1) := by decide +kernel
theorem dX11_layThere_203 : decode cX11_layThere 203 = .ok (.getfield 19, 3) := by decide +kernel
theorem dX11_layThere_206 : decode cX11_layThere 206 = .ok (.iload 8, 2) := by decide +kernel
theorem dX11_layThere_208 : decode cX11_layThere 208 = .ok (.iaload, 1) := by decide +kernel
theorem dX11_layThere_209 : decode cX11_layThere 209 = .ok (.iastore, 1) := by decide +kernel
theorem dX11_layThere_210 : decode cX11_layThere 210 = .ok (.aload_n 0, 1) := by decide +kernel
theorem dX11_layThere_211 : decode cX11_layThere 211 = .ok (.getfield 19, 3) := by decide +kernel
theorem dX11_layThere_214 : decode cX11_layThere 214 = .ok (.iload 7, 2) := by decide +kernel
theorem dX11_layThere_216 : decode cX11_layThere 216 = .ok (.iload 11, 2) := by decide +kernel
theorem dX11_layThere_218 : decode cX11_layThere 218 = .ok (.ifCond .eq 8, 3) := by decide +kernel
theorem dX11_layThere_221 : decode cX11_layThere 221 = .ok (.iload 9, 2) := by decide +kernel
theorem dX11_layThere_223 : decode cX11_layThere 223 = .ok (.goto 10, 3) := by decide +kernel
theorem dX11_layThere_226 : decode cX11_layThere 226 = .ok (.aload_n 0, 1) := by decide +kernel
theorem dX11_layThere_227 : decode cX11_layThere 227 = .ok (.getfield 19, 3) := by decide +kernel
theorem dX11_layThere_230 : decode cX11_layThere 230 = .ok (.iload 7, 2) := by decide +kernel
theorem dX11_layThere_232 : decode cX11_layThere 232 = .ok (.iaload, 1) := by decide +kernel
theorem dX11_layThere_233 : decode cX11_layThere 233 = .ok (.iastore, 1) := by decide +kernel
theorem dX11_layThere_234 : decode cX11_layThere 234 = .ok (.iinc 6 1, 3) := by decide +kernel
theorem dX11_layThere_237 : decode cX11_layThere 237 = .ok (.goto (-186), 3) := by decide +kernel
theorem dX11_layThere_240 : decode cX11_layThere 240 = .ok (.iinc 5 1, 3) := by decide +kernel
theorem dX11_layThere_243 : decode cX11_layThere 243 = .ok (.goto (-205), 3) := by decide +kernel
theorem dX11_layThere_246 : decode cX11_layThere 246 = .ok (.return_, 1) := by decide +kernel
theorem dX11_soonestOf_0 : decode cX11_soonestOf 0 = .ok (.aload_n 0, 1) := by decide +kernel
theorem dX11_soonestOf_1 : decode cX11_soonestOf 1 = .ok (.iload_n 1, 1) := by decide +kernel
theorem dX11_soonestOf_2 : decode cX11_soonestOf 2 = .ok (.iload_n 3, 1) := by decide +kernel
theorem dX11_soonestOf_3 : decode cX11_soonestOf 3 = .ok (.iload 4, 2) := by decide +kernel
theorem dX11_soonestOf_5 : decode cX11_soonestOf 5 = .ok (.iload 5, 2) := by decide +kernel
theorem dX11_soonestOf_7 : decode cX11_soonestOf 7 = .ok (.invokevirtual 147, 3) := by decide +kernel
theorem dX11_soonestOf_10 : decode cX11_soonestOf 10 = .ok (.aload_n 0, 1) := by decide +kernel
theorem dX11_soonestOf_11 : decode cX11_soonestOf 11 = .ok (.getfield 19, 3) := by decide +kernel
theorem dX11_soonestOf_14 : decode cX11_soonestOf 14 = .ok (.iload_n 2, 1) := by decide +kernel
theorem dX11_soonestOf_15 : decode cX11_soonestOf 15 = .ok (.iaload, 1) := by decide +kernel
theorem dX11_soonestOf_16 : decode cX11_soonestOf 16 = .ok (.ldc 142, 2) := by decide +kernel
theorem dX11_soonestOf_18 : decode cX11_soonestOf 18 = .ok (.if_icmp .ne 7, 3) := by decide +kernel
theorem dX11_soonestOf_21 : decode cX11_soonestOf 21 = .ok (.iconst (-1), 1) := by decide +kernel
theorem dX11_soonestOf_22 : decode cX11_soonestOf 22 = .ok (.goto 9, 3) := by decide +kernel
theorem dX11_soonestOf_25 : decode cX11_soonestOf 25 = .ok (.aload_n 0, 1) := by decide +kernel
theorem dX11_soonestOf_26 : decode cX11_soonestOf 26 = .ok (.getfield 19, 3) := by decide +kernel
theorem dX11_soonestOf_29 : decode cX11_soonestOf 29 = .ok (.iload_n 2, 1) := by decide +kernel
theorem dX11_soonestOf_30 : decode cX11_soonestOf 30 = .ok (.iaload, 1) := by decide +kernel
theorem dX11_soonestOf_31 : decode cX11_soonestOf 31 = .ok (.ireturn, 1) := by decide +kernel
theorem dX11_isCarrier_0 : decode cX11_isCarrier 0 = .ok (.iload_n 0, 1) := by decide +kernel
theorem dX11_isCarrier_1 : decode cX11_isCarrier 1 = .ok (.i2l, 1) := by decide +kernel
theorem dX11_isCarrier_2 : decode cX11_isCarrier 2 = .ok (.lconst 1, 1) := by decide +kernel
theorem dX11_isCarrier_3 : decode cX11_isCarrier 3 = .ok (.ldc2_w 67, 3) := by decide +kernel
theorem dX11_isCarrier_6 : decode cX11_isCarrier 6 = .ok (.invokestatic 69, 3) := by decide +kernel
theorem dX11_isCarrier_9 : decode cX11_isCarrier 9 = .ok (.ifCond .eq 19, 3) := by decide +kernel
theorem dX11_isCarrier_12 : decode cX11_isCarrier 12 = .ok (.iload_n 1, 1) := by decide +kernel
theorem dX11_isCarrier_13 : decode cX11_isCarrier 13 = .ok (.i2l, 1) := by decide +kernel
theorem dX11_isCarrier_14 : decode cX11_isCarrier 14 = .ok (.lconst 1, 1) := by decide +kernel
theorem dX11_isCarrier_15 : decode cX11_isCarrier 15 = .ok (.ldc2_w 67, 3) := by decide +kernel
theorem dX11_isCarrier_18 : decode cX11_isCarrier 18 = .ok (.invokestatic 69, 3) := by decide +kernel
theorem dX11_isCarrier_21 : decode cX11_isCarrier 21 = .ok (.ifCond .eq 7, 3) := by decide +kernel
theorem dX11_isCarrier_24 : decode cX11_isCarrier 24 = .ok (.iconst 1, 1) := by decide +kernel
theorem dX11_isCarrier_25 : decode cX11_isCarrier 25 = .ok (.goto 4, 3) := by decide +kernel
theorem dX11_isCarrier_28 : decode cX11_isCarrier 28 = .ok (.iconst 0, 1) := by decide +kernel
theorem dX11_isCarrier_29 : decode cX11_isCarrier 29 = .ok (.ireturn, 1) := by decide +kernel
theorem dX11_isMinute_0 : decode cX11_isMinute 0 = .ok (.iload_n 0, 1) := by decide +kernel
theorem dX11_isMinute_1 : decode cX11_isMinute 1 = .ok (.i2l, 1) := by decide +kernel
theorem dX11_isMinute_2 : decode cX11_isMinute 2 = .ok (.lconst 0, 1) := by decide +kernel
theorem dX11_isMinute_3 : decode cX11_isMinute 3 = .ok (.ldc2_w 151, 3) := by decide +kernel
theorem dX11_isMinute_6 : decode cX11_isMinute 6 = .ok (.invokestatic 69, 3) := by decide +kernel
theorem dX11_isMinute_9 : decode cX11_isMinute 9 = .ok (.ireturn, 1) := by decide +kernel
theorem dX11_soonest_0 : decode cX11_soonest 0 = .ok (.iload_n 1, 1) := by decide +kernel
theorem dX11_soonest_1 : decode cX11_soonest 1 = .ok (.invokestatic 153, 3) := by decide +kernel
theorem dX11_soonest_4 : decode cX11_soonest 4 = .ok (.ifCond .eq 10, 3) := by decide +kernel
theorem dX11_soonest_7 : decode cX11_soonest 7 = .ok (.iload_n 2, 1) := by decide +kernel
theorem dX11_soonest_8 : decode cX11_soonest 8 = .ok (.invokestatic 153, 3) := by decide +kernel
theorem dX11_soonest_11 : decode cX11_soonest 11 = .ok (.ifCond .ne 6, 3) := by decide +kernel
theorem dX11_soonest_14 : decode cX11_soonest 14 = .ok (.bipush (-101), 2) := by decide +kernel
theorem dX11_soonest_16 : decode cX11_soonest 16 = .ok (.ireturn, 1) := by decide +kernel
theorem dX11_soonest_17 : decode cX11_soonest 17 = .ok (.iload_n 3, 1) := by decide +kernel
theorem dX11_soonest_18 : decode cX11_soonest 18 = .ok (.invokestatic 156, 3) := by decide +kernel
theorem dX11_soonest_21 : decode cX11_soonest 21 = .ok (.ifCond .eq 27, 3) := by decide +kernel
theorem dX11_soonest_24 : decode cX11_soonest 24 = .ok (.iload 4, 2) := by decide +kernel
theorem dX11_soonest_26 : decode cX11_soonest 26 = .ok (.iload 5, 2) := by decide +kernel
theorem dX11_soonest_28 : decode cX11_soonest 28 = .ok (.invokestatic 159, 3) := by decide +kernel
theorem dX11_soonest_31 : decode cX11_soonest 31 = .ok (.ifCond .eq 17, 3) := by decide +kernel
theorem dX11_soonest_34 : decode cX11_soonest 34 = .ok (.aload_n 0, 1) := by decide +kernel
theorem dX11_soonest_35 : decode cX11_soonest 35 = .ok (.iload_n 1, 1) := by decide +kernel
theorem dX11_soonest_36 : decode cX11_soonest 36 = .ok (.iload_n 2, 1) := by decide +kernel
theorem dX11_soonest_37 : decode cX11_soonest 37 = .ok (.iload_n 3, 1) := by decide +kernel
theorem dX11_soonest_38 : decode cX11_soonest 38 = .ok (.iload 4, 2) := by decide +kernel
theorem dX11_soonest_40 : decode cX11_soonest 40 = .ok (.iload 5, 2) := by decide +kernel
theorem dX11_soonest_42 : decode cX11_soonest 42 = .ok (.invokevirtual 163, 3) := by decide +kernel
theorem dX11_soonest_45 : decode cX11_soonest 45 = .ok (.goto 5, 3) := by decide +kernel
theorem dX11_soonest_48 : decode cX11_soonest 48 = .ok (.bipush (-102), 2) := by decide +kernel
theorem dX11_soonest_50 : decode cX11_soonest 50 = .ok (.ireturn, 1) := by decide +kernel
theorem dX11_last_0 : decode cX11_last 0 = .ok (.iload_n 1, 1) := by decide +kernel
theorem dX11_last_1 : decode cX11_last 1 = .ok (.invokestatic 153, 3) := by decide +kernel
theorem dX11_last_4 : decode cX11_last 4 = .ok (.ifCond .eq 10, 3) := by decide +kernel
theorem dX11_last_7 : decode cX11_last 7 = .ok (.iload_n 2, 1) := by decide +kernel
theorem dX11_last_8 : decode cX11_last 8 = .ok (.invokestatic 153, 3) := by decide +kernel
theorem dX11_last_11 : decode cX11_last 11 = .ok (.ifCond .ne 6, 3) := by decide +kernel
theorem dX11_last_14 : decode cX11_last 14 = .ok (.bipush (-101), 2) := by decide +kernel
theorem dX11_last_16 : decode cX11_last 16 = .ok (.ireturn, 1) := by decide +kernel
theorem dX11_last_17 : decode cX11_last 17 = .ok (.iload_n 3, 1) := by decide +kernel
theorem dX11_last_18 : decode cX11_last 18 = .ok (.invokestatic 156, 3) := by decide +kernel
theorem dX11_last_21 : decode cX11_last 21 = .ok (.ifCond .eq 27, 3) := by decide +kernel
theorem dX11_last_24 : decode cX11_last 24 = .ok (.iload 4, 2) := by decide +kernel
theorem dX11_last_26 : decode cX11_last 26 = .ok (.i2l, 1) := by decide +kernel
theorem dX11_last_27 : decode cX11_last 27 = .ok (.iload_n 3, 1) := by decide +kernel
theorem dX11_last_28 : decode cX11_last 28 = .ok (.i2l, 1) := by decide +kernel
theorem dX11_last_29 : decode cX11_last 29 = .ok (.ldc2_w 151, 3) := by decide +kernel
theorem dX11_last_32 : decode cX11_last 32 = .ok (.invokestatic 69, 3) := by decide +kernel
theorem dX11_last_35 : decode cX11_last 35 = .ok (.ifCond .eq 13, 3) := by decide +kernel
theorem dX11_last_38 : decode cX11_last 38 = .ok (.iload 5, 2) := by decide +kernel
theorem dX11_last_40 : decode cX11_last 40 = .ok (.iload 6, 2) := by decide +kernel
theorem dX11_last_42 : decode cX11_last 42 = .ok (.invokestatic 159, 3) := by decide +kernel
theorem dX11_last_45 : decode cX11_last 45 = .ok (.ifCond .ne 6, 3) := by decide +kernel
theorem dX11_last_48 : decode cX11_last 48 = .ok (.bipush (-102), 2) := by decide +kernel
theorem dX11_last_50 : decode cX11_last 50 = .ok (.ireturn, 1) := by decide +kernel
theorem dX11_last_51 : decode cX11_last 51 = .ok (.iconst 0, 1) := by decide +kernel
theorem dX11_last_52 : decode cX11_last 52 = .ok (.istore 7, 2) := by decide +kernel
theorem dX11_last_54 : decode cX11_last 54 = .ok (.iload 7, 2) := by decide +kernel
theorem dX11_last_56 : decode cX11_last 56 = .ok (.bipush 8, 2) := by decide +kernel
theorem dX11_last_58 : decode cX11_last 58 = .ok (.if_icmp .ge 28, 3) := by decide +kernel
theorem dX11_last_61 : decode cX11_last 61 = .ok (.aload_n 0, 1) := by decide +kernel
theorem dX11_last_62 : decode cX11_last 62 = .ok (.getfield 19, 3) := by decide +kernel
theorem dX11_last_65 : decode cX11_last 65 = .ok (.iload 7, 2) := by decide +kernel
theorem dX11_last_67 : decode cX11_last 67 = .ok (.iload 7, 2) := by decide +kernel
theorem dX11_last_69 : decode cX11_last 69 = .ok (.iload_n 2, 1) := by decide +kernel
theorem dX11_last_70 : decode cX11_last 70 = .ok (.if_icmp .ne 8, 3) := by decide +kernel
theorem dX11_last_73 : decode cX11_last 73 = .ok (.iload 4, 2) := by decide +kernel
theorem dX11_last_75 : decode cX11_last 75 = .ok (.goto 4, 3) := by decide +kernel
theorem dX11_last_78 : decode cX11_last 78 = .ok (.iconst (-1), 1) := by decide +kernel
theorem dX11_last_79 : decode cX11_last 79 = .ok (.iastore, 1) := by decide +kernel
theorem dX11_last_80 : decode cX11_last 80 = .ok (.iinc 7 1, 3) := by decide +kernel
theorem dX11_last_83 : decode cX11_last 83 = .ok (.goto (-29), 3) := by decide +kernel
theorem dX11_last_86 : decode cX11_last 86 = .ok (.iload 4, 2) := by decide +kernel
theorem dX11_last_88 : decode cX11_last 88 = .ok (.istore 7, 2) := by decide +kernel
theorem dX11_last_90 : decode cX11_last 90 = .ok (.iload 7, 2) := by decide +kernel
theorem dX11_last_92 : decode cX11_last 92 = .ok (.iload_n 3, 1) := by decide +kernel
theorem dX11_last_93 : decode cX11_last 93 = .ok (.if_icmp .lt 182, 3) := by decide +kernel
theorem dX11_last_96 : decode cX11_last 96 = .ok (.iconst 0, 1) := by decide +kernel
theorem dX11_last_97 : decode cX11_last 97 = .ok (.istore 8, 2) := by decide +kernel
theorem dX11_last_99 : decode cX11_last 99 = .ok (.iload 8, 2) := by decide +kernel
theorem dX11_last_101 : decode cX11_last 101 = .ok (.aload_n 0, 1) := by decide +kernel
theorem dX11_last_102 : decode cX11_last 102 = .ok (.getfield 104, 3) := by decide +kernel
theorem dX11_last_105 : decode cX11_last 105 = .ok (.if_icmp .ge 164, 3) := by decide +kernel
theorem dX11_last_108 : decode cX11_last 108 = .ok (.aload_n 0, 1) := by decide +kernel
theorem dX11_last_109 : decode cX11_last 109 = .ok (.iload 8, 2) := by decide +kernel
theorem dX11_last_111 : decode cX11_last 111 = .ok (.iload 7, 2) := by decide +kernel
theorem dX11_last_113 : decode cX11_last 113 = .ok (.iload 5, 2) := by decide +kernel
theorem dX11_last_115 : decode cX11_last 115 = .ok (.iload 6, 2) := by decide +kernel
theorem dX11_last_117 : decode cX11_last 117 = .ok (.invokevirtual 143, 3) := by decide +kernel
theorem dX11_last_120 : decode cX11_last 120 = .ok (.ifCond .eq 143, 3) := by decide +kernel
theorem dX11_last_123 : decode cX11_last 123 = .ok (.aload_n 0, 1) := by decide +kernel
theorem dX11_last_124 : decode cX11_last 124 = .ok (.getfield 16, 3) := by decide +kernel
theorem dX11_last_127 : decode cX11_last 127 = .ok (.bipush 10, 2) := by decide +kernel
theorem dX11_last_129 : decode cX11_last 129 = .ok (.iload 8, 2) := by decide +kernel
theorem dX11_last_131 : decode cX11_last 131 = .ok (.imul, 1) := by decide +kernel
theorem dX11_last_132 : decode cX11_last 132 = .ok (.iconst 1, 1) := by decide +kernel
theorem dX11_last_133 : decode cX11_last 133 = .ok (.iadd, 1) := by decide +kernel
theorem dX11_last_134 : decode cX11_last 134 = .ok (.iaload, 1) := by decide +kernel
theorem dX11_last_135 : decode cX11_last 135 = .ok (.istore 9, 2) := by decide +kernel
theorem dX11_last_137 : decode cX11_last 137 = .ok (.aload_n 0, 1) := by decide +kernel
theorem dX11_last_138 : decode cX11_last 138 = .ok (.iload 8, 2) := by decide +kernel
theorem dX11_last_140 : decode cX11_last 140 = .ok (.iload 7, 2) := by decide +kernel
theorem dX11_last_142 : decode cX11_last 142 = .ok (.invokevirtual 134, 3) := by decide +kernel
theorem dX11_last_145 : decode cX11_last 145 = .ok (.istore 10, 2) := by decide +kernel
theorem dX11_last_147 : decode cX11_last 147 = .ok (.iload 7, 2) := by decide +kernel
theorem dX11_last_149 : decode cX11_last 149 = .ok (.iload 5, 2) := by decide +kernel
theorem dX11_last_151 : decode cX11_last 151 = .ok (.iadd, 1) := by decide +kernel
theorem dX11_last_152 : decode cX11_last 152 = .ok (.aload_n 0, 1) := by decide +kernel
theorem dX11_last_153 : decode cX11_last 153 = .ok (.getfield 19, 3) := by decide +kernel
theorem dX11_last_156 : decode cX11_last 156 = .ok (.iload 10, 2) := by decide +kernel
theorem dX11_last_158 : decode cX11_last 158 = .ok (.iaload, 1) := by decide +kernel
theorem dX11_last_159 : decode cX11_last 159 = .ok (.if_icmp .gt 19, 3) := by decide +kernel
theorem dX11_last_162 : decode cX11_last 162 = .ok (.iload 7, 2) := by decide +kernel
theorem dX11_last_164 : decode cX11_last 164 = .ok (.aload_n 0, 1) := by decide +kernel
theorem dX11_last_165 : decode cX11_last 165 = .ok (.getfield 19, 3) := by decide +kernel
theorem dX11_last_168 : decode cX11_last 168 = .ok (.iload 9, 2) := by decide +kernel
theorem dX11_last_170 : decode cX11_last 170 = .ok (.iaload, 1) := by decide +kernel
theorem dX11_last_171 : decode cX11_last 171 = .ok (.if_icmp .le 7, 3) := by decide +kernel
theorem dX11_last_174 : decode cX11_last 174 = .ok (.iconst 1, 1) := by decide +kernel
theorem dX11_last_175 : decode cX11_last 175 = .ok (.goto 4, 3) := by decide +kernel
theorem dX11_last_178 : decode cX11_last 178 = .ok (.iconst 0, 1) := by decide +kernel
theorem dX11_last_179 : decode cX11_last 179 = .ok (.istore 11, 2) := by decide +kernel
theorem dX11_last_181 : decode cX11_last 181 = .ok (.iload 7, 2) := by decide +kernel
theorem dX11_last_183 : decode cX11_last 183 = .ok (.iload 5, 2) := by decide +kernel
theorem dX11_last_185 : decode cX11_last 185 = .ok (.iadd, 1) := by decide +kernel
theorem dX11_last_186 : decode cX11_last 186 = .ok (.aload_n 0, 1) := by decide +kernel
theorem dX11_last_187 : decode cX11_last 187 = .ok (.getfield 19, 3) := by decide +kernel
theorem dX11_last_190 : decode cX11_last 190 = .ok (.iload 9, 2) := by decide +kernel
theorem dX11_last_192 : decode cX11_last 192 = .ok (.iaload, 1) := by decide +kernel
theorem dX11_last_193 : decode cX11_last 193 = .ok (.if_icmp .gt 19, 3) := by decide +kernel
theorem dX11_last_196 : decode cX11_last 196 = .ok (.iload 7, 2) := by decide +kernel
theorem dX11_last_198 : decode cX11_last 198 = .ok (.aload_n 0, 1) := by decide +kernel
theorem dX11_last_199 : decode cX11_last 199 = .ok (.getfield 19, 3) := by decide +kernel
theorem dX11_last_202 : decode cX11_last 202 = .ok (.iload 10, 2) := by decide +kernel
theorem dX11_last_204 : decode cX11_last 204 = .ok (.iaload, 1) := by decide +kernel
theorem dX11_last_205 : decode cX11_last 205 = .ok (.if_icmp .le 7, 3) := by decide +kernel
theorem dX11_last_208 : decode cX11_last 208 = .ok (.iconst 1, 1) := by decide +kernel
theorem dX11_last_209 : decode cX11_last 209 = .ok (.goto 4, 3) := by decide +kernel
theorem dX11_last_212 : decode cX11_last 212 = .ok (.iconst 0, 1) := by decide +kernel
theorem dX11_last_213 : decode cX11_last 213 = .ok (.istore 12, 2) := by decide +kernel
theorem dX11_last_215 : decode cX11_last 215 = .ok (.aload_n 0, 1) := by decide +kernel
theorem dX11_last_216 : decode cX11_last 216 = .ok (.getfield 19, 3) := by decide +kernel
theorem dX11_last_219 : decode cX11_last 219 = .ok (.iload 9, 2) := by decide +kernel
theorem dX11_last_221 : decode cX11_last 221 = .ok (.iload 11, 2) := by decide +kernel
theorem dX11_last_223 : decode cX11_last 223 = .ok (.ifCond .eq 8, 3) := by decide +kernel
theorem dX11_last_226 : decode cX11_last 226 = .ok (.iload 7, 2) := by decide +kernel
theorem dX11_last_228 : decode cX11_last 228 = .ok (.goto 10, 3) := by decide +kernel
theorem dX11_last_231 : decode cX11_last 231 = .ok (.aload_n 0, 1) := by decide +kernel
theorem dX11_last_232 : decode cX11_last 232 = .ok (.getfield 19, 3) := by decide +kernel
theorem dX11_last_235 : decode cX11_last 235 = .ok (.iload 9, 2) := by decide +kernel
theorem dX11_last_237 : decode cX11_last 237 = .ok (.iaload, 1) := by decide +kernel
theorem dX11_last_238 : decode cX11_last 238 = .ok (.iastore, 1) := by decide +kernel
theorem dX11_last_239 : decode cX11_last 239 = .ok (.aload_n 0, 1) := by decide +kernel
theorem dX11_last_240 : decode cX11_last 240 = .ok (.getfield 19, 3) := by decide +kernel
theorem dX11_last_243 : decode cX11_last 243 = .ok (.iload 10, 2) := by decide +kernel
theorem dX11_last_245 : decode cX11_last 245 = .ok (.iload 12, 2) := by decide +kernel
theorem dX11_last_247 : decode cX11_last 247 = .ok (.ifCond .eq 8, 3) := by decide +kernel
theorem dX11_last_250 : decode cX11_last 250 = .ok (.iload 7, 2) := by decide +kernel
theorem dX11_last_252 : decode cX11_last 252 = .ok (.goto 10, 3) := by decide +kernel
theorem dX11_last_255 : decode cX11_last 255 = .ok (.aload_n 0, 1) := by decide +kernel
theorem dX11_last_256 : decode cX11_last 256 = .ok (.getfield 19, 3) := by decide +kernel
theorem dX11_last_259 : decode cX11_last 259 = .ok (.iload 10, 2) := by decide +kernel
theorem dX11_last_261 : decode cX11_last 261 = .ok (.iaload, 1) := by decide +kernel
theorem dX11_last_262 : decode cX11_last 262 = .ok (.iastore, 1) := by decide +kernel
theorem dX11_last_263 : decode cX11_last 263 = .ok (.iinc 8 1, 3) := by decide +kernel
theorem dX11_last_266 : decode cX11_last 266 = .ok (.goto (-167), 3) := by decide +kernel
theorem dX11_last_269 : decode cX11_last 269 = .ok (.iinc 7 (-1), 3) := by decide +kernel
theorem dX11_last_272 : decode cX11_last 272 = .ok (.goto (-182), 3) := by decide +kernel
theorem dX11_last_275 : decode cX11_last 275 = .ok (.aload_n 0, 1) := by decide +kernel
theorem dX11_last_276 : decode cX11_last 276 = .ok (.getfield 19, 3) := by decide +kernel
theorem dX11_last_279 : decode cX11_last 279 = .ok (.iload_n 1, 1) := by decide +kernel
theorem dX11_last_280 : decode cX11_last 280 = .ok (.iaload, 1) := by decide +kernel
theorem dX11_last_281 : decode cX11_last 281 = .ok (.ireturn, 1) := by decide +kernel
theorem dX11_common_0 : decode cX11_common 0 = .ok (.lload_n 0, 1) := by decide +kernel
theorem dX11_common_1 : decode cX11_common 1 = .ok (.lstore 4, 2) := by decide +kernel
theorem dX11_common_3 : decode cX11_common 3 = .ok (.lload_n 2, 1) := by decide +kernel
theorem dX11_common_4 : decode cX11_common 4 = .ok (.lstore 6, 2) := by decide +kernel
theorem dX11_common_6 : decode cX11_common 6 = .ok (.lload 4, 2) := by decide +kernel
theorem dX11_common_8 : decode cX11_common 8 = .ok (.lconst 0, 1) := by decide +kernel
theorem dX11_common_9 : decode cX11_common 9 = .ok (.lcmp, 1) := by decide +kernel
theorem dX11_common_10 : decode cX11_common 10 = .ok (.ifCond .eq 21, 3) := by decide +kernel
theorem dX11_common_13 : decode cX11_common 13 = .ok (.lload 6, 2) := by decide +kernel
theorem dX11_common_15 : decode cX11_common 15 = .ok (.lload 4, 2) := by decide +kernel
theorem dX11_common_17 : decode cX11_common 17 = .ok (.lrem, 1) := by decide +kernel
theorem dX11_common_18 : decode cX11_common 18 = .ok (.lstore 8, 2) := by decide +kernel
theorem dX11_common_20 : decode cX11_common 20 = .ok (.lload 4, 2) := by decide +kernel
theorem dX11_common_22 : decode cX11_common 22 = .ok (.lstore 6, 2) := by decide +kernel
theorem dX11_common_24 : decode cX11_common 24 = .ok (.lload 8, 2) := by decide +kernel
theorem dX11_common_26 : decode cX11_common 26 = .ok (.lstore 4, 2) := by decide +kernel
theorem dX11_common_28 : decode cX11_common 28 = .ok (.goto (-22), 3) := by decide +kernel
theorem dX11_common_31 : decode cX11_common 31 = .ok (.lload 6, 2) := by decide +kernel
theorem dX11_common_33 : decode cX11_common 33 = .ok (.lreturn, 1) := by decide +kernel
theorem dX11_againOf_0 : decode cX11_againOf 0 = .ok (.lconst 1, 1) := by decide +kernel
theorem dX11_againOf_1 : decode cX11_againOf 1 = .ok (.lstore_n 1, 1) := by decide +kernel
theorem dX11_againOf_2 : decode cX11_againOf 2 = .ok (.iconst 0, 1) := by decide +kernel
theorem dX11_againOf_3 : decode cX11_againOf 3 = .ok (.istore_n 3, 1) := by decide +kernel
theorem dX11_againOf_4 : decode cX11_againOf 4 = .ok (.iload_n 3, 1) := by decide +kernel
theorem dX11_againOf_5 : decode cX11_againOf 5 = .ok (.aload_n 0, 1) := by decide +kernel
theorem dX11_againOf_6 : decode cX11_againOf 6 = .ok (.getfield 104, 3) := by decide +kernel
theorem dX11_againOf_9 : decode cX11_againOf 9 = .ok (.if_icmp .ge 29, 3) := by decide +kernel
theorem dX11_againOf_12 : decode cX11_againOf 12 = .ok (.lload_n 1, 1) := by decide +kernel
theorem dX11_againOf_13 : decode cX11_againOf 13 = .ok (.lload_n 1, 1) := by decide +kernel
theorem dX11_againOf_14 : decode cX11_againOf 14 = .ok (.aload_n 0, 1) := by decide +kernel
theorem dX11_againOf_15 : decode cX11_againOf 15 = .ok (.iload_n 3, 1) := by decide +kernel
theorem dX11_againOf_16 : decode cX11_againOf 16 = .ok (.invokevirtual 121, 3) := by decide +kernel
theorem dX11_againOf_19 : decode cX11_againOf 19 = .ok (.i2l, 1) := by decide +kernel
theorem dX11_againOf_20 : decode cX11_againOf 20 = .ok (.invokestatic 167, 3) := by decide +kernel
theorem dX11_againOf_23 : decode cX11_againOf 23 = .ok (.ldiv, 1) := by decide +kernel
theorem dX11_againOf_24 : decode cX11_againOf 24 = .ok (.aload_n 0, 1) := by decide +kernel
theorem dX11_againOf_25 : decode cX11_againOf 25 = .ok (.iload_n 3, 1) := by decide +kernel
theorem dX11_againOf_26 : decode cX11_againOf 26 = .ok (.invokevirtual 121, 3) := by decide +kernel
theorem dX11_againOf_29 : decode cX11_againOf 29 = .ok (.i2l, 1) := by decide +kernel
theorem dX11_againOf_30 : decode cX11_againOf 30 = .ok (.lmul, 1) := by decide +kernel
theorem dX11_againOf_31 : decode cX11_againOf 31 = .ok (.lstore_n 1, 1) := by decide +kernel
theorem dX11_againOf_32 : decode cX11_againOf 32 = .ok (.iinc 3 1, 3) := by decide +kernel
theorem dX11_againOf_35 : decode cX11_againOf 35 = .ok (.goto (-31), 3) := by decide +kernel
theorem dX11_againOf_38 : decode cX11_againOf 38 = .ok (.lload_n 1, 1) := by decide +kernel
theorem dX11_againOf_39 : decode cX11_againOf 39 = .ok (.lreturn, 1) := by decide +kernel
theorem dX11_again_0 : decode cX11_again 0 = .ok (.aload_n 0, 1) := by decide +kernel
theorem dX11_again_1 : decode cX11_again 1 = .ok (.invokevirtual 171, 3) := by decide +kernel
theorem dX11_again_4 : decode cX11_again 4 = .ok (.lreturn, 1) := by decide +kernel
theorem dX11_cutOf_0 : decode cX11_cutOf 0 = .ok (.iconst 0, 1) := by decide +kernel
theorem dX11_cutOf_1 : decode cX11_cutOf 1 = .ok (.istore 4, 2) := by decide +kernel
theorem dX11_cutOf_3 : decode cX11_cutOf 3 = .ok (.iload_n 2, 1) := by decide +kernel
theorem dX11_cutOf_4 : decode cX11_cutOf 4 = .ok (.istore 5, 2) := by decide +kernel
theorem dX11_cutOf_6 : decode cX11_cutOf 6 = .ok (.iload 5, 2) := by decide +kernel
theorem dX11_cutOf_8 : decode cX11_cutOf 8 = .ok (.iload_n 2, 1) := by decide +kernel
theorem dX11_cutOf_9 : decode cX11_cutOf 9 = .ok (.iload_n 3, 1) := by decide +kernel
theorem dX11_cutOf_10 : decode cX11_cutOf 10 = .ok (.iadd, 1) := by decide +kernel
theorem dX11_cutOf_11 : decode cX11_cutOf 11 = .ok (.if_icmp .ge 95, 3) := by decide +kernel
theorem dX11_cutOf_14 : decode cX11_cutOf 14 = .ok (.iconst 0, 1) := by decide +kernel
theorem dX11_cutOf_15 : decode cX11_cutOf 15 = .ok (.istore 6, 2) := by decide +kernel
theorem dX11_cutOf_17 : decode cX11_cutOf 17 = .ok (.iconst 0, 1) := by decide +kernel
theorem dX11_cutOf_18 : decode cX11_cutOf 18 = .ok (.istore 7, 2) := by decide +kernel
theorem dX11_cutOf_20 : decode cX11_cutOf 20 = .ok (.iload 7, 2) := by decide +kernel
theorem dX11_cutOf_22 : decode cX11_cutOf 22 = .ok (.aload_n 0, 1) := by decide +kernel
theorem dX11_cutOf_23 : decode cX11_cutOf 23 = .ok (.getfield 104, 3) := by decide +kernel
theorem dX11_cutOf_26 : decode cX11_cutOf 26 = .ok (.if_icmp .ge 59, 3) := by decide +kernel
theorem dX11_cutOf_29 : decode cX11_cutOf 29 = .ok (.aload_n 0, 1) := by decide +kernel
theorem dX11_cutOf_30 : decode cX11_cutOf 30 = .ok (.iload 7, 2) := by decide +kernel
theorem dX11_cutOf_32 : decode cX11_cutOf 32 = .ok (.iload 5, 2) := by decide +kernel
theorem dX11_cutOf_34 : decode cX11_cutOf 34 = .ok (.invokevirtual 134, 3) := by decide +kernel
theorem dX11_cutOf_37 : decode cX11_cutOf 37 = .ok (.istore 8, 2) := by decide +kernel
theorem dX11_cutOf_39 : decode cX11_cutOf 39 = .ok (.iload 6, 2) := by decide +kernel
theorem dX11_cutOf_41 : decode cX11_cutOf 41 = .ok (.ifCond .ne 31, 3) := by decide +kernel
theorem dX11_cutOf_44 : decode cX11_cutOf 44 = .ok (.iload 8, 2) := by decide +kernel
theorem dX11_cutOf_46 : decode cX11_cutOf 46 = .ok (.iconst (-1), 1) := by decide +kernel
theorem dX11_cutOf_47 : decode cX11_cutOf 47 = .ok (.if_icmp .eq 29, 3) := by decide +kernel
theorem dX11_cutOf_50 : decode cX11_cutOf 50 = .ok (.iload 8, 2) := by decide +kernel
theorem dX11_cutOf_52 : decode cX11_cutOf 52 = .ok (.iload_n 1, 1) := by decide +kernel
theorem dX11_cutOf_53 : decode cX11_cutOf 53 = .ok (.if_icmp .eq 19, 3) := by decide +kernel
theorem dX11_cutOf_56 : decode cX11_cutOf 56 = .ok (.aload_n 0, 1) := by decide +kernel
theorem dX11_cutOf_57 : decode cX11_cutOf 57 = .ok (.getfield 16, 3) := by decide +kernel
theorem dX11_cutOf_60 : decode cX11_cutOf 60 = .ok (.bipush 10, 2) := by decide +kernel
theorem dX11_cutOf_62 : decode cX11_cutOf 62 = .ok (.iload 7, 2) := by decide +kernel
theorem dX11_cutOf_64 : decode cX11_cutOf 64 = .ok (.imul, 1) := by decide +kernel
theorem dX11_cutOf_65 : decode cX11_cutOf 65 = .ok (.iconst 1, 1) := by decide +kernel
theorem dX11_cutOf_66 : decode cX11_cutOf 66 = .ok (.iadd, 1) := by decide +kernel
theorem dX11_cutOf_67 : decode cX11_cutOf 67 = .ok (.iaload, 1) := by decide +kernel
theorem dX11_cutOf_68 : decode cX11_cutOf 68 = .ok (.iload_n 1, 1) := by decide +kernel
theorem dX11_cutOf_69 : decode cX11_cutOf 69 = .ok (.if_icmp .ne 7, 3) := by decide +kernel
theorem dX11_cutOf_72 : decode cX11_cutOf 72 = .ok (.iconst 1, 1) := by decide +kernel
theorem dX11_cutOf_73 : decode cX11_cutOf 73 = .ok (.goto 4, 3) := by decide +kernel
theorem dX11_cutOf_76 : decode cX11_cutOf 76 = .ok (.iconst 0, 1) := by decide +kernel
theorem dX11_cutOf_77 : decode cX11_cutOf 77 = .ok (.istore 6, 2) := by decide +kernel
theorem dX11_cutOf_79 : decode cX11_cutOf 79 = .ok (.iinc 7 1, 3) := by decide +kernel
theorem dX11_cutOf_82 : decode cX11_cutOf 82 = .ok (.goto (-62), 3) := by decide +kernel
theorem dX11_cutOf_85 : decode cX11_cutOf 85 = .ok (.iload 4, 2) := by decide +kernel
theorem dX11_cutOf_87 : decode cX11_cutOf 87 = .ok (.iload 6, 2) := by decide +kernel
theorem dX11_cutOf_89 : decode cX11_cutOf 89 = .ok (.ifCond .eq 7, 3) := by decide +kernel
theorem dX11_cutOf_92 : decode cX11_cutOf 92 = .ok (.iconst 0, 1) := by decide +kernel
theorem dX11_cutOf_93 : decode cX11_cutOf 93 = .ok (.goto 4, 3) := by decide +kernel
theorem dX11_cutOf_96 : decode cX11_cutOf 96 = .ok (.iconst 1, 1) := by decide +kernel
theorem dX11_cutOf_97 : decode cX11_cutOf 97 = .ok (.iadd, 1) := by decide +kernel
theorem dX11_cutOf_98 : decode cX11_cutOf 98 = .ok (.istore 4, 2) := by decide +kernel
theorem dX11_cutOf_100 : decode cX11_cutOf 100 = .ok (.iinc 5 1, 3) := by decide +kernel
theorem dX11_cutOf_103 : decode cX11_cutOf 103 = .ok (.goto (-97), 3) := by decide +kernel
theorem dX11_cutOf_106 : decode cX11_cutOf 106 = .ok (.iload 4, 2) := by decide +kernel
theorem dX11_cutOf_108 : decode cX11_cutOf 108 = .ok (.ireturn, 1) := by decide +kernel
theorem dX11_cut_0 : decode cX11_cut 0 = .ok (.iload_n 1, 1) := by decide +kernel
theorem dX11_cut_1 : decode cX11_cut 1 = .ok (.invokestatic 153, 3) := by decide +kernel
theorem dX11_cut_4 : decode cX11_cut 4 = .ok (.ifCond .ne 6, 3) := by decide +kernel
theorem dX11_cut_7 : decode cX11_cut 7 = .ok (.bipush (-101), 2) := by decide +kernel
theorem dX11_cut_9 : decode cX11_cut 9 = .ok (.ireturn, 1) := by decide +kernel
theorem dX11_cut_10 : decode cX11_cut 10 = .ok (.iload_n 2, 1) := by decide +kernel
theorem dX11_cut_11 : decode cX11_cut 11 = .ok (.invokestatic 156, 3) := by decide +kernel
theorem dX11_cut_14 : decode cX11_cut 14 = .ok (.ifCond .eq 25, 3) := by decide +kernel
theorem dX11_cut_17 : decode cX11_cut 17 = .ok (.iload_n 3, 1) := by decide +kernel
theorem dX11_cut_18 : decode cX11_cut 18 = .ok (.i2l, 1) := by decide +kernel
theorem dX11_cut_19 : decode cX11_cut 19 = .ok (.lconst 1, 1) := by decide +kernel
theorem dX11_cut_20 : decode cX11_cut 20 = .ok (.ldc2_w 175, 3) := by decide +kernel
theorem dX11_cut_23 : decode cX11_cut 23 = .ok (.invokestatic 69, 3) := by decide +kernel
theorem dX11_cut_26 : decode cX11_cut 26 = .ok (.ifCond .eq 13, 3) := by decide +kernel
theorem dX11_cut_29 : decode cX11_cut 29 = .ok (.aload_n 0, 1) := by decide +kernel
theorem dX11_cut_30 : decode cX11_cut 30 = .ok (.iload_n 1, 1) := by decide +kernel
theorem dX11_cut_31 : decode cX11_cut 31 = .ok (.iload_n 2, 1) := by decide +kernel
theorem dX11_cut_32 : decode cX11_cut 32 = .ok (.iload_n 3, 1) := by decide +kernel
theorem dX11_cut_33 : decode cX11_cut 33 = .ok (.invokevirtual 177, 3) := by decide +kernel
theorem dX11_cut_36 : decode cX11_cut 36 = .ok (.goto 5, 3) := by decide +kernel
theorem dX11_cut_39 : decode cX11_cut 39 = .ok (.bipush (-102), 2) := by decide +kernel
theorem dX11_cut_41 : decode cX11_cut 41 = .ok (.ireturn, 1) := by decide +kernel
theorem dX11_layWaits_0 : decode cX11_layWaits 0 = .ok (.aload_n 0, 1) := by decide +kernel
theorem dX11_layWaits_1 : decode cX11_layWaits 1 = .ok (.iconst 0, 1) := by decide +kernel
theorem dX11_layWaits_2 : decode cX11_layWaits 2 = .ok (.putfield 181, 3) := by decide +kernel
theorem dX11_layWaits_5 : decode cX11_layWaits 5 = .ok (.aload_n 0, 1) := by decide +kernel
theorem dX11_layWaits_6 : decode cX11_layWaits 6 = .ok (.iconst 0, 1) := by decide +kernel
theorem dX11_layWaits_7 : decode cX11_layWaits 7 = .ok (.putfield 184, 3) := by decide +kernel
theorem dX11_layWaits_10 : decode cX11_layWaits 10 = .ok (.iconst 0, 1) := by decide +kernel
theorem dX11_layWaits_11 : decode cX11_layWaits 11 = .ok (.istore 6, 2) := by decide +kernel
theorem dX11_layWaits_13 : decode cX11_layWaits 13 = .ok (.iload 6, 2) := by decide +kernel
theorem dX11_layWaits_15 : decode cX11_layWaits 15 = .ok (.iload_n 3, 1) := by decide +kernel
theorem dX11_layWaits_16 : decode cX11_layWaits 16 = .ok (.if_icmp .ge 83, 3) := by decide +kernel
theorem dX11_layWaits_19 : decode cX11_layWaits 19 = .ok (.aload_n 0, 1) := by decide +kernel
theorem dX11_layWaits_20 : decode cX11_layWaits 20 = .ok (.getfield 184, 3) := by decide +kernel
theorem dX11_layWaits_23 : decode cX11_layWaits 23 = .ok (.iconst (-1), 1) := by decide +kernel
theorem dX11_layWaits_24 : decode cX11_layWaits 24 = .ok (.if_icmp .eq 75, 3) := by decide +kernel
theorem dX11_layWaits_27 : decode cX11_layWaits 27 = .ok (.aload_n 0, 1) := by decide +kernel
theorem dX11_layWaits_28 : decode cX11_layWaits 28 = .ok (.iload_n 1, 1) := by decide +kernel
theorem dX11_layWaits_29 : decode cX11_layWaits 29 = .ok (.iload_n 2, 1) := by decide +kernel
theorem dX11_layWaits_30 : decode cX11_layWaits 30 = .ok (.iload 6, 2) := by decide +kernel
theorem dX11_layWaits_32 : decode cX11_layWaits 32 = .ok (.iload 4, 2) := by decide +kernel
theorem dX11_layWaits_34 : decode cX11_layWaits 34 = .ok (.iload 5, 2) := by decide +kernel
theorem dX11_layWaits_36 : decode cX11_layWaits 36 = .ok (.invokevirtual 163, 3) := by decide +kernel
theorem dX11_layWaits_39 : decode cX11_layWaits 39 = .ok (.istore 7, 2) := by decide +kernel
theorem dX11_layWaits_41 : decode cX11_layWaits 41 = .ok (.aload_n 0, 1) := by decide +kernel
theorem dX11_layWaits_42 : decode cX11_layWaits 42 = .ok (.dup, 1) := by decide +kernel
theorem dX11_layWaits_43 : decode cX11_layWaits 43 = .ok (.getfield 181, 3) := by decide +kernel
theorem dX11_layWaits_46 : decode cX11_layWaits 46 = .ok (.iload 7, 2) := by decide +kernel
theorem dX11_layWaits_48 : decode cX11_layWaits 48 = .ok (.iload 6, 2) := by decide +kernel
theorem dX11_layWaits_50 : decode cX11_layWaits 50 = .ok (.isub, 1) := by decide +kernel
theorem dX11_layWaits_51 : decode cX11_layWaits 51 = .ok (.iadd, 1) := by decide +kernel
theorem dX11_layWaits_52 : decode cX11_layWaits 52 = .ok (.putfield 181, 3) := by decide +kernel
theorem dX11_layWaits_55 : decode cX11_layWaits 55 = .ok (.aload_n 0, 1) := by decide +kernel
theorem dX11_layWaits_56 : decode cX11_layWaits 56 = .ok (.iload 7, 2) := by decide +kernel
theorem dX11_layWaits_58 : decode cX11_layWaits 58 = .ok (.iconst (-1), 1) := by decide +kernel
theorem dX11_layWaits_59 : decode cX11_layWaits 59 = .ok (.if_icmp .ne 7, 3) := by decide +kernel
theorem dX11_layWaits_62 : decode cX11_layWaits 62 = .ok (.iconst (-1), 1) := by decide +kernel
theorem dX11_layWaits_63 : decode cX11_layWaits 63 = .ok (.goto 27, 3) := by decide +kernel
theorem dX11_layWaits_66 : decode cX11_layWaits 66 = .ok (.iload 7, 2) := by decide +kernel
theorem dX11_layWaits_68 : decode cX11_layWaits 68 = .ok (.iload 6, 2) := by decide +kernel
theorem dX11_layWaits_70 : decode cX11_layWaits 70 = .ok (.isub, 1) := by decide +kernel
theorem dX11_layWaits_71 : decode cX11_layWaits 71 = .ok (.aload_n 0, 1) := by decide +kernel
theorem dX11_layWaits_72 : decode cX11_layWaits 72 = .ok (.getfield 184, 3) := by decide +kernel
theorem dX11_layWaits_75 : decode cX11_layWaits 75 = .ok (.if_icmp .le 11, 3) := by decide +kernel
theorem dX11_layWaits_78 : decode cX11_layWaits 78 = .ok (.iload 7, 2) := by decide +kernel
theorem dX11_layWaits_80 : decode cX11_layWaits 80 = .ok (.iload 6, 2) := by decide +kernel
theorem dX11_layWaits_82 : decode cX11_layWaits 82 = .ok (.isub, 1) := by decide +kernel
theorem dX11_layWaits_83 : decode cX11_layWaits 83 = .ok (.goto 7, 3) := by decide +kernel
theorem dX11_layWaits_86 : decode cX11_layWaits 86 = .ok (.aload_n 0, 1) := by decide +kernel
theorem dX11_layWaits_87 : decode cX11_layWaits 87 = .ok (.getfield 184, 3) := by decide +kernel
theorem dX11_layWaits_90 : decode cX11_layWaits 90 = .ok (.putfield 184, 3) := by decide +kernel
theorem dX11_layWaits_93 : decode cX11_layWaits 93 = .ok (.iinc 6 1, 3) := by decide +kernel
theorem dX11_layWaits_96 : decode cX11_layWaits 96 = .ok (.goto (-83), 3) := by decide +kernel
theorem dX11_layWaits_99 : decode cX11_layWaits 99 = .ok (.return_, 1) := by decide +kernel
theorem dX11_worst_0 : decode cX11_worst 0 = .ok (.iload_n 1, 1) := by decide +kernel
theorem dX11_worst_1 : decode cX11_worst 1 = .ok (.invokestatic 153, 3) := by decide +kernel
theorem dX11_worst_4 : decode cX11_worst 4 = .ok (.ifCond .eq 10, 3) := by decide +kernel
theorem dX11_worst_7 : decode cX11_worst 7 = .ok (.iload_n 2, 1) := by decide +kernel
theorem dX11_worst_8 : decode cX11_worst 8 = .ok (.invokestatic 153, 3) := by decide +kernel
theorem dX11_worst_11 : decode cX11_worst 11 = .ok (.ifCond .ne 6, 3) := by decide +kernel
theorem dX11_worst_14 : decode cX11_worst 14 = .ok (.bipush (-101), 2) := by decide +kernel
theorem dX11_worst_16 : decode cX11_worst 16 = .ok (.ireturn, 1) := by decide +kernel
theorem dX11_worst_17 : decode cX11_worst 17 = .ok (.iload_n 3, 1) := by decide +kernel
theorem dX11_worst_18 : decode cX11_worst 18 = .ok (.i2l, 1) := by decide +kernel
theorem dX11_worst_19 : decode cX11_worst 19 = .ok (.lconst 1, 1) := by decide +kernel
theorem dX11_worst_20 : decode cX11_worst 20 = .ok (.ldc2_w 187, 3) := by decide +kernel
theorem dX11_worst_23 : decode cX11_worst 23 = .ok (.invokestatic 69, 3) := by decide +kernel
theorem dX11_worst_26 : decode cX11_worst 26 = .ok (.ifCond .eq 13, 3) := by decide +kernel
theorem dX11_worst_29 : decode cX11_worst 29 = .ok (.iload 4, 2) := by decide +kernel
theorem dX11_worst_31 : decode cX11_worst 31 = .ok (.iload 5, 2) := by decide +kernel
theorem dX11_worst_33 : decode cX11_worst 33 = .ok (.invokestatic 159, 3) := by decide +kernel
theorem dX11_worst_36 : decode cX11_worst 36 = .ok (.ifCond .ne 6, 3) := by decide +kernel
theorem dX11_worst_39 : decode cX11_worst 39 = .ok (.bipush (-102), 2) := by decide +kernel
theorem dX11_worst_41 : decode cX11_worst 41 = .ok (.ireturn, 1) := by decide +kernel
theorem dX11_worst_42 : decode cX11_worst 42 = .ok (.aload_n 0, 1) := by decide +kernel
theorem dX11_worst_43 : decode cX11_worst 43 = .ok (.iload_n 1, 1) := by decide +kernel
theorem dX11_worst_44 : decode cX11_worst 44 = .ok (.iload_n 2, 1) := by decide +kernel
theorem dX11_worst_45 : decode cX11_worst 45 = .ok (.iload_n 3, 1) := by decide +kernel
theorem dX11_worst_46 : decode cX11_worst 46 = .ok (.iload 4, 2) := by decide +kernel
theorem dX11_worst_48 : decode cX11_worst 48 = .ok (.iload 5, 2) := by decide +kernel
theorem dX11_worst_50 : decode cX11_worst 50 = .ok (.invokevirtual 189, 3) := by decide +kernel
theorem dX11_worst_53 : decode cX11_worst 53 = .ok (.aload_n 0, 1) := by decide +kernel
theorem dX11_worst_54 : decode cX11_worst 54 = .ok (.getfield 184, 3) := by decide +kernel
theorem dX11_worst_57 : decode cX11_worst 57 = .ok (.ireturn, 1) := by decide +kernel
theorem dX11_mean_0 : decode cX11_mean 0 = .ok (.iload_n 1, 1) := by decide +kernel
theorem dX11_mean_1 : decode cX11_mean 1 = .ok (.invokestatic 153, 3) := by decide +kernel
theorem dX11_mean_4 : decode cX11_mean 4 = .ok (.ifCond .eq 10, 3) := by decide +kernel
theorem dX11_mean_7 : decode cX11_mean 7 = .ok (.iload_n 2, 1) := by decide +kernel
theorem dX11_mean_8 : decode cX11_mean 8 = .ok (.invokestatic 153, 3) := by decide +kernel
theorem dX11_mean_11 : decode cX11_mean 11 = .ok (.ifCond .ne 6, 3) := by decide +kernel
theorem dX11_mean_14 : decode cX11_mean 14 = .ok (.bipush (-101), 2) := by decide +kernel
theorem dX11_mean_16 : decode cX11_mean 16 = .ok (.ireturn, 1) := by decide +kernel
theorem dX11_mean_17 : decode cX11_mean 17 = .ok (.iload_n 3, 1) := by decide +kernel
theorem dX11_mean_18 : decode cX11_mean 18 = .ok (.i2l, 1) := by decide +kernel
theorem dX11_mean_19 : decode cX11_mean 19 = .ok (.lconst 1, 1) := by decide +kernel
theorem dX11_mean_20 : decode cX11_mean 20 = .ok (.ldc2_w 187, 3) := by decide +kernel
theorem dX11_mean_23 : decode cX11_mean 23 = .ok (.invokestatic 69, 3) := by decide +kernel
theorem dX11_mean_26 : decode cX11_mean 26 = .ok (.ifCond .eq 24, 3) := by decide +kernel
theorem dX11_mean_29 : decode cX11_mean 29 = .ok (.iload 4, 2) := by decide +kernel
theorem dX11_mean_31 : decode cX11_mean 31 = .ok (.iload 5, 2) := by decide +kernel
theorem dX11_mean_33 : decode cX11_mean 33 = .ok (.invokestatic 159, 3) := by decide +kernel
theorem dX11_mean_36 : decode cX11_mean 36 = .ok (.ifCond .eq 14, 3) := by decide +kernel
theorem dX11_mean_39 : decode cX11_mean 39 = .ok (.iload 6, 2) := by decide +kernel
theorem dX11_mean_41 : decode cX11_mean 41 = .ok (.i2l, 1) := by decide +kernel
theorem dX11_mean_42 : decode cX11_mean 42 = .ok (.lconst 0, 1) := by decide +kernel
theorem dX11_mean_43 : decode cX11_mean 43 = .ok (.lconst 1, 1) := by decide +kernel
theorem dX11_mean_44 : decode cX11_mean 44 = .ok (.invokestatic 69, 3) := by decide +kernel
theorem dX11_mean_47 : decode cX11_mean 47 = .ok (.ifCond .ne 6, 3) := by decide +kernel
theorem dX11_mean_50 : decode cX11_mean 50 = .ok (.bipush (-102), 2) := by decide +kernel
theorem dX11_mean_52 : decode cX11_mean 52 = .ok (.ireturn, 1) := by decide +kernel
theorem dX11_mean_53 : decode cX11_mean 53 = .ok (.aload_n 0, 1) := by decide +kernel
theorem dX11_mean_54 : decode cX11_mean 54 = .ok (.iload_n 1, 1) := by decide +kernel
theorem dX11_mean_55 : decode cX11_mean 55 = .ok (.iload_n 2, 1) := by decide +kernel
theorem dX11_mean_56 : decode cX11_mean 56 = .ok (.iload_n 3, 1) := by decide +kernel
theorem dX11_mean_57 : decode cX11_mean 57 = .ok (.iload 4, 2) := by decide +kernel
theorem dX11_mean_59 : decode cX11_mean 59 = .ok (.iload 5, 2) := by decide +kernel
theorem dX11_mean_61 : decode cX11_mean 61 = .ok (.invokevirtual 189, 3) := by decide +kernel
theorem dX11_mean_64 : decode cX11_mean 64 = .ok (.aload_n 0, 1) := by decide +kernel
theorem dX11_mean_65 : decode cX11_mean 65 = .ok (.getfield 184, 3) := by decide +kernel
theorem dX11_mean_68 : decode cX11_mean 68 = .ok (.iconst (-1), 1) := by decide +kernel
theorem dX11_mean_69 : decode cX11_mean 69 = .ok (.if_icmp .ne 5, 3) := by decide +kernel
theorem dX11_mean_72 : decode cX11_mean 72 = .ok (.iconst (-1), 1) := by decide +kernel
theorem dX11_mean_73 : decode cX11_mean 73 = .ok (.ireturn, 1) := by decide +kernel
theorem dX11_mean_74 : decode cX11_mean 74 = .ok (.aload_n 0, 1) := by decide +kernel
theorem dX11_mean_75 : decode cX11_mean 75 = .ok (.getfield 181, 3) := by decide +kernel
theorem dX11_mean_78 : decode cX11_mean 78 = .ok (.i2l, 1) := by decide +kernel
theorem dX11_mean_79 : decode cX11_mean 79 = .ok (.iload_n 3, 1) := by decide +kernel
theorem dX11_mean_80 : decode cX11_mean 80 = .ok (.i2l, 1) := by decide +kernel
theorem dX11_mean_81 : decode cX11_mean 81 = .ok (.invokestatic 167, 3) := by decide +kernel
theorem dX11_mean_84 : decode cX11_mean 84 = .ok (.l2i, 1) := by decide +kernel
theorem dX11_mean_85 : decode cX11_mean 85 = .ok (.istore 7, 2) := by decide +kernel
theorem dX11_mean_87 : decode cX11_mean 87 = .ok (.iload 6, 2) := by decide +kernel
theorem dX11_mean_89 : decode cX11_mean 89 = .ok (.ifCond .ne 13, 3) := by decide +kernel
theorem dX11_mean_92 : decode cX11_mean 92 = .ok (.aload_n 0, 1) := by decide +kernel
theorem dX11_mean_93 : decode cX11_mean 93 = .ok (.getfield 181, 3) := by decide +kernel
theorem dX11_mean_96 : decode cX11_mean 96 = .ok (.iload 7, 2) := by decide +kernel
theorem dX11_mean_98 : decode cX11_mean 98 = .ok (.idiv, 1) := by decide +kernel
theorem dX11_mean_99 : decode cX11_mean 99 = .ok (.goto 7, 3) := by decide +kernel
theorem dX11_mean_102 : decode cX11_mean 102 = .ok (.iload_n 3, 1) := by decide +kernel
theorem dX11_mean_103 : decode cX11_mean 103 = .ok (.iload 7, 2) := by decide +kernel
theorem dX11_mean_105 : decode cX11_mean 105 = .ok (.idiv, 1) := by decide +kernel
theorem dX11_mean_106 : decode cX11_mean 106 = .ok (.ireturn, 1) := by decide +kernel
theorem dX11_set_0 : decode cX11_set 0 = .ok (.aload_n 0, 1) := by decide +kernel
theorem dX11_set_1 : decode cX11_set 1 = .ok (.iload_n 1, 1) := by decide +kernel
theorem dX11_set_2 : decode cX11_set 2 = .ok (.invokevirtual 107, 3) := by decide +kernel
theorem dX11_set_5 : decode cX11_set 5 = .ok (.ifCond .eq 17, 3) := by decide +kernel
theorem dX11_set_8 : decode cX11_set 8 = .ok (.iload_n 2, 1) := by decide +kernel
theorem dX11_set_9 : decode cX11_set 9 = .ok (.invokestatic 153, 3) := by decide +kernel
theorem dX11_set_12 : decode cX11_set 12 = .ok (.ifCond .eq 10, 3) := by decide +kernel
theorem dX11_set_15 : decode cX11_set 15 = .ok (.iload_n 3, 1) := by decide +kernel
theorem dX11_set_16 : decode cX11_set 16 = .ok (.invokestatic 153, 3) := by decide +kernel
theorem dX11_set_19 : decode cX11_set 19 = .ok (.ifCond .ne 6, 3) := by decide +kernel
theorem dX11_set_22 : decode cX11_set 22 = .ok (.bipush (-101), 2) := by decide +kernel
theorem dX11_set_24 : decode cX11_set 24 = .ok (.ireturn, 1) := by decide +kernel
theorem dX11_set_25 : decode cX11_set 25 = .ok (.aload_n 0, 1) := by decide +kernel
theorem dX11_set_26 : decode cX11_set 26 = .ok (.getfield 16, 3) := by decide +kernel
theorem dX11_set_29 : decode cX11_set 29 = .ok (.bipush 10, 2) := by decide +kernel
theorem dX11_set_31 : decode cX11_set 31 = .ok (.iload_n 1, 1) := by decide +kernel
theorem dX11_set_32 : decode cX11_set 32 = .ok (.imul, 1) := by decide +kernel
theorem dX11_set_33 : decode cX11_set 33 = .ok (.iaload, 1) := by decide +kernel
theorem dX11_set_34 : decode cX11_set 34 = .ok (.iconst 3, 1) := by decide +kernel
theorem dX11_set_35 : decode cX11_set 35 = .ok (.if_icmp .ne 6, 3) := by decide +kernel
theorem dX11_set_38 : decode cX11_set 38 = .ok (.bipush (-103), 2) := by decide +kernel
theorem dX11_set_40 : decode cX11_set 40 = .ok (.ireturn, 1) := by decide +kernel
theorem dX11_set_41 : decode cX11_set 41 = .ok (.aload_n 0, 1) := by decide +kernel
theorem dX11_set_42 : decode cX11_set 42 = .ok (.getfield 16, 3) := by decide +kernel
theorem dX11_set_45 : decode cX11_set 45 = .ok (.bipush 10, 2) := by decide +kernel
theorem dX11_set_47 : decode cX11_set 47 = .ok (.iload_n 1, 1) := by decide +kernel
theorem dX11_set_48 : decode cX11_set 48 = .ok (.imul, 1) := by decide +kernel
theorem dX11_set_49 : decode cX11_set 49 = .ok (.bipush 8, 2) := by decide +kernel
theorem dX11_set_51 : decode cX11_set 51 = .ok (.iadd, 1) := by decide +kernel
theorem dX11_set_52 : decode cX11_set 52 = .ok (.iaload, 1) := by decide +kernel
theorem dX11_set_53 : decode cX11_set 53 = .ok (.istore 4, 2) := by decide +kernel
theorem dX11_set_55 : decode cX11_set 55 = .ok (.iconst (-1), 1) := by decide +kernel
theorem dX11_set_56 : decode cX11_set 56 = .ok (.istore 5, 2) := by decide +kernel
theorem dX11_set_58 : decode cX11_set 58 = .ok (.ldc 142, 2) := by decide +kernel
theorem dX11_set_60 : decode cX11_set 60 = .ok (.istore 6, 2) := by decide +kernel
theorem dX11_set_62 : decode cX11_set 62 = .ok (.iconst 0, 1) := by decide +kernel
theorem dX11_set_63 : decode cX11_set 63 = .ok (.istore 7, 2) := by decide +kernel
theorem dX11_set_65 : decode cX11_set 65 = .ok (.iload 7, 2) := by decide +kernel
theorem dX11_set_67 : decode cX11_set 67 = .ok (.bipush 10, 2) := by decide +kernel
theorem dX11_set_69 : decode cX11_set 69 = .ok (.if_icmp .ge 85, 3) := by decide +kernel
theorem dX11_set_72 : decode cX11_set 72 = .ok (.aload_n 0, 1) := by decide +kernel
theorem dX11_set_73 : decode cX11_set 73 = .ok (.getfield 16, 3) := by decide +kernel
theorem dX11_set_76 : decode cX11_set 76 = .ok (.bipush 10, 2) := by decide +kernel
theorem dX11_set_78 : decode cX11_set 78 = .ok (.iload_n 1, 1) := by decide +kernel
theorem dX11_set_79 : decode cX11_set 79 = .ok (.imul, 1) := by decide +kernel
theorem dX11_set_80 : decode cX11_set 80 = .ok (.bipush 8, 2) := by decide +kernel
theorem dX11_set_82 : decode cX11_set 82 = .ok (.iadd, 1) := by decide +kernel
theorem dX11_set_83 : decode cX11_set 83 = .ok (.iload 7, 2) := by decide +kernel
theorem dX11_set_85 : decode cX11_set 85 = .ok (.iastore, 1) := by decide +kernel
theorem dX11_set_86 : decode cX11_set 86 = .ok (.aload_n 0, 1) := by decide +kernel
theorem dX11_set_87 : decode cX11_set 87 = .ok (.iload_n 2, 1) := by decide +kernel
theorem dX11_set_88 : decode cX11_set 88 = .ok (.iload_n 3, 1) := by decide +kernel
theorem dX11_set_89 : decode cX11_set 89 = .ok (.bipush 60, 2) := by decide +kernel
theorem dX11_set_91 : decode cX11_set 91 = .ok (.iconst 1, 1) := by decide +kernel
theorem dX11_set_92 : decode cX11_set 92 = .ok (.iconst 1, 1) := by decide +kernel
theorem dX11_set_93 : decode cX11_set 93 = .ok (.invokevirtual 189, 3) := by decide +kernel
theorem dX11_set_96 : decode cX11_set 96 = .ok (.aload_n 0, 1) := by decide +kernel
theorem dX11_set_97 : decode cX11_set 97 = .ok (.getfield 184, 3) := by decide +kernel
theorem dX11_set_100 : decode cX11_set 100 = .ok (.iconst (-1), 1) := by decide +kernel
theorem dX11_set_101 : decode cX11_set 101 = .ok (.if_icmp .ne 9, 3) := by decide +kernel
theorem dX11_set_104 : decode cX11_set 104 = .ok (.sipush 1000, 3) := by decide +kernel
theorem dX11_set_107 : decode cX11_set 107 = .ok (.goto 7, 3) := by decide +kernel
theorem dX11_set_110 : decode cX11_set 110 = .ok (.aload_n 0, 1) := by decide +kernel
theorem dX11_set_111 : decode cX11_set 111 = .ok (.getfield 184, 3) := by decide +kernel
theorem dX11_set_114 : decode cX11_set 114 = .ok (.istore 8, 2) := by decide +kernel
theorem dX11_set_116 : decode cX11_set 116 = .ok (.iload 8, 2) := by decide +kernel
theorem dX11_set_118 : decode cX11_set 118 = .ok (.iload 6, 2) := by decide +kernel
theorem dX11_set_120 : decode cX11_set 120 = .ok (.if_icmp .ge 8, 3) := by decide +kernel
theorem dX11_set_123 : decode cX11_set 123 = .ok (.iload 7, 2) := by decide +kernel
theorem dX11_set_125 : decode cX11_set 125 = .ok (.goto 5, 3) := by decide +kernel
theorem dX11_set_128 : decode cX11_set 128 = .ok (.iload 5, 2) := by decide +kernel
theorem dX11_set_130 : decode cX11_set 130 = .ok (.istore 5, 2) := by decide +kernel
theorem dX11_set_132 : decode cX11_set 132 = .ok (.iload 8, 2) := by decide +kernel
theorem dX11_set_134 : decode cX11_set 134 = .ok (.iload 6, 2) := by decide +kernel
theorem dX11_set_136 : decode cX11_set 136 = .ok (.if_icmp .ge 8, 3) := by decide +kernel
theorem dX11_set_139 : decode cX11_set 139 = .ok (.iload 8, 2) := by decide +kernel
theorem dX11_set_141 : decode cX11_set 141 = .ok (.goto 5, 3) := by decide +kernel
theorem dX11_set_144 : decode cX11_set 144 = .ok (.iload 6, 2) := by decide +kernel
theorem dX11_set_146 : decode cX11_set 146 = .ok (.istore 6, 2) := by decide +kernel
theorem dX11_set_148 : decode cX11_set 148 = .ok (.iinc 7 1, 3) := by decide +kernel
theorem dX11_set_151 : decode cX11_set 151 = .ok (.goto (-86), 3) := by decide +kernel
theorem dX11_set_154 : decode cX11_set 154 = .ok (.aload_n 0, 1) := by decide +kernel
theorem dX11_set_155 : decode cX11_set 155 = .ok (.getfield 16, 3) := by decide +kernel
theorem dX11_set_158 : decode cX11_set 158 = .ok (.bipush 10, 2) := by decide +kernel
theorem dX11_set_160 : decode cX11_set 160 = .ok (.iload_n 1, 1) := by decide +kernel
theorem dX11_set_161 : decode cX11_set 161 = .ok (.imul, 1) := by decide +kernel
theorem dX11_set_162 : decode cX11_set 162 = .ok (.bipush 8, 2) := by decide +kernel
theorem dX11_set_164 : decode cX11_set 164 = .ok (.iadd, 1) := by decide +kernel
theorem dX11_set_165 : decode cX11_set 165 = .ok (.iload 4, 2) := by decide +kernel
theorem dX11_set_167 : decode cX11_set 167 = .ok (.iastore, 1) := by decide +kernel
theorem dX11_set_168 : decode cX11_set 168 = .ok (.iload 5, 2) := by decide +kernel
theorem dX11_set_170 : decode cX11_set 170 = .ok (.ireturn, 1) := by decide +kernel
theorem dX11_comeTo_0 : decode cX11_comeTo 0 = .ok (.aload_n 0, 1) := by decide +kernel
theorem dX11_comeTo_1 : decode cX11_comeTo 1 = .ok (.getfield 31, 3) := by decide +kernel
theorem dX11_comeTo_4 : decode cX11_comeTo 4 = .ok (.iload_n 1, 1) := by decide +kernel
theorem dX11_comeTo_5 : decode cX11_comeTo 5 = .ok (.iaload, 1) := by decide +kernel
theorem dX11_comeTo_6 : decode cX11_comeTo 6 = .ok (.iconst (-1), 1) := by decide +kernel
theorem dX11_comeTo_7 : decode cX11_comeTo 7 = .ok (.if_icmp .ne 37, 3) := by decide +kernel
theorem dX11_comeTo_10 : decode cX11_comeTo 10 = .ok (.aload_n 0, 1) := by decide +kernel
theorem dX11_comeTo_11 : decode cX11_comeTo 11 = .ok (.getfield 31, 3) := by decide +kernel
theorem dX11_comeTo_14 : decode cX11_comeTo 14 = .ok (.iload_n 1, 1) := by decide +kernel
theorem dX11_comeTo_15 : decode cX11_comeTo 15 = .ok (.iload_n 2, 1) := by decide +kernel
theorem dX11_comeTo_16 : decode cX11_comeTo 16 = .ok (.iastore, 1) := by decide +kernel
theorem dX11_comeTo_17 : decode cX11_comeTo 17 = .ok (.aload_n 0, 1) := by decide +kernel
theorem dX11_comeTo_18 : decode cX11_comeTo 18 = .ok (.getfield 34, 3) := by decide +kernel
theorem dX11_comeTo_21 : decode cX11_comeTo 21 = .ok (.iload_n 1, 1) := by decide +kernel
theorem dX11_comeTo_22 : decode cX11_comeTo 22 = .ok (.iload_n 3, 1) := by decide +kernel
theorem dX11_comeTo_23 : decode cX11_comeTo 23 = .ok (.iastore, 1) := by decide +kernel
theorem dX11_comeTo_24 : decode cX11_comeTo 24 = .ok (.aload_n 0, 1) := by decide +kernel
theorem dX11_comeTo_25 : decode cX11_comeTo 25 = .ok (.getfield 37, 3) := by decide +kernel
theorem dX11_comeTo_28 : decode cX11_comeTo 28 = .ok (.aload_n 0, 1) := by decide +kernel
theorem dX11_comeTo_29 : decode cX11_comeTo 29 = .ok (.getfield 193, 3) := by decide +kernel
theorem dX11_comeTo_32 : decode cX11_comeTo 32 = .ok (.iload_n 1, 1) := by decide +kernel
theorem dX11_comeTo_33 : decode cX11_comeTo 33 = .ok (.iastore, 1) := by decide +kernel
theorem dX11_comeTo_34 : decode cX11_comeTo 34 = .ok (.aload_n 0, 1) := by decide +kernel
theorem dX11_comeTo_35 : decode cX11_comeTo 35 = .ok (.dup, 1) := by decide +kernel
theorem dX11_comeTo_36 : decode cX11_comeTo 36 = .ok (.getfield 193, 3) := by decide +kernel
theorem dX11_comeTo_39 : decode cX11_comeTo 39 = .ok (.iconst 1, 1) := by decide +kernel
theorem dX11_comeTo_40 : decode cX11_comeTo 40 = .ok (.iadd, 1) := by decide +kernel
theorem dX11_comeTo_41 : decode cX11_comeTo 41 = .ok (.putfield 193, 3) := by decide +kernel
theorem dX11_comeTo_44 : decode cX11_comeTo 44 = .ok (.return_, 1) := by decide +kernel
theorem dX11_lookOn_0 : decode cX11_lookOn 0 = .ok (.iload_n 1, 1) := by decide +kernel
theorem dX11_lookOn_1 : decode cX11_lookOn 1 = .ok (.bipush 8, 2) := by decide +kernel
theorem dX11_lookOn_3 : decode cX11_lookOn 3 = .ok (.idiv, 1) := by decide +kernel
theorem dX11_lookOn_4 : decode cX11_lookOn 4 = .ok (.istore 6, 2) := by decide +kernel
theorem dX11_lookOn_6 : decode cX11_lookOn 6 = .ok (.iload_n 1, 1) := by decide +kernel
theorem dX11_lookOn_7 : decode cX11_lookOn 7 = .ok (.bipush 8, 2) := by decide +kernel
theorem dX11_lookOn_9 : decode cX11_lookOn 9 = .ok (.irem, 1) := by decide +kernel
theorem dX11_lookOn_10 : decode cX11_lookOn 10 = .ok (.istore 7, 2) := by decide +kernel
theorem dX11_lookOn_12 : decode cX11_lookOn 12 = .ok (.iload 6, 2) := by decide +kernel
theorem dX11_lookOn_14 : decode cX11_lookOn 14 = .ok (.iload_n 3, 1) := by decide +kernel
theorem dX11_lookOn_15 : decode cX11_lookOn 15 = .ok (.if_icmp .ge 13, 3) := by decide +kernel
theorem dX11_lookOn_18 : decode cX11_lookOn 18 = .ok (.aload_n 0, 1) := by decide +kernel
theorem dX11_lookOn_19 : decode cX11_lookOn 19 = .ok (.iload_n 1, 1) := by decide +kernel
theorem dX11_lookOn_20 : decode cX11_lookOn 20 = .ok (.bipush 8, 2) := by decide +kernel
theorem dX11_lookOn_22 : decode cX11_lookOn 22 = .ok (.iadd, 1) := by decide +kernel
theorem dX11_lookOn_23 : decode cX11_lookOn 23 = .ok (.iload_n 1, 1) := by decide +kernel
theorem dX11_lookOn_24 : decode cX11_lookOn 24 = .ok (.iconst 0, 1) := by decide +kernel
theorem dX11_lookOn_25 : decode cX11_lookOn 25 = .ok (.invokevirtual 196, 3) := by decide +kernel
theorem dX11_lookOn_28 : decode cX11_lookOn 28 = .ok (.iload 6, 2) := by decide +kernel
theorem dX11_lookOn_30 : decode cX11_lookOn 30 = .ok (.ifCond .le 25, 3) := by decide +kernel
theorem dX11_lookOn_33 : decode cX11_lookOn 33 = .ok (.aload_n 0, 1) := by decide +kernel
theorem dX11_lookOn_34 : decode cX11_lookOn 34 = .ok (.getfield 22, 3) := by decide +kernel
theorem dX11_lookOn_37 : decode cX11_lookOn 37 = .ok (.iload_n 1, 1) := by decide +kernel
theorem dX11_lookOn_38 : decode cX11_lookOn 38 = .ok (.bipush 8, 2) := by decide +kernel
theorem dX11_lookOn_40 : decode cX11_lookOn 40 = .ok (.isub, 1) := by decide +kernel
theorem dX11_lookOn_41 : decode cX11_lookOn 41 = .ok (.iaload, 1) := by decide +kernel
theorem dX11_lookOn_42 : decode cX11_lookOn 42 = .ok (.ifCond .le 13, 3) := by decide +kernel
theorem dX11_lookOn_45 : decode cX11_lookOn 45 = .ok (.aload_n 0, 1) := by decide +kernel
theorem dX11_lookOn_46 : decode cX11_lookOn 46 = .ok (.iload_n 1, 1) := by decide +kernel
theorem dX11_lookOn_47 : decode cX11_lookOn 47 = .ok (.bipush 8, 2) := by decide +kernel
theorem dX11_lookOn_49 : decode cX11_lookOn 49 = .ok (.isub, 1) := by decide +kernel
theorem dX11_lookOn_50 : decode cX11_lookOn 50 = .ok (.iload_n 1, 1) := by decide +kernel
theorem dX11_lookOn_51 : decode cX11_lookOn 51 = .ok (.iconst 1, 1) := by decide +kernel
theorem dX11_lookOn_52 : decode cX11_lookOn 52 = .ok (.invokevirtual 196, 3) := by decide +kernel
theorem dX11_lookOn_55 : decode cX11_lookOn 55 = .ok (.iconst 0, 1) := by decide +kernel
theorem dX11_lookOn_56 : decode cX11_lookOn 56 = .ok (.istore 8, 2) := by decide +kernel
theorem dX11_lookOn_58 : decode cX11_lookOn 58 = .ok (.iload 8, 2) := by decide +kernel
theorem dX11_lookOn_60 : decode cX11_lookOn 60 = .ok (.aload_n 0, 1) := by decide +kernel
theorem dX11_lookOn_61 : decode cX11_lookOn 61 = .ok (.getfield 104, 3) := by decide +kernel
theorem dX11_lookOn_64 : decode cX11_lookOn 64 = .ok (.if_icmp .ge 290, 3) := by decide +kernel
theorem dX11_lookOn_67 : decode cX11_lookOn 67 = .ok (.aload_n 0, 1) := by decide +kernel
theorem dX11_lookOn_68 : decode cX11_lookOn 68 = .ok (.getfield 16, 3) := by decide +kernel
theorem dX11_lookOn_71 : decode cX11_lookOn 71 = .ok (.bipush 10, 2) := by decide +kernel
theorem dX11_lookOn_73 : decode cX11_lookOn 73 = .ok (.iload 8, 2) := by decide +kernel
theorem dX11_lookOn_75 : decode cX11_lookOn 75 = .ok (.imul, 1) := by decide +kernel
theorem dX11_lookOn_76 : decode cX11_lookOn 76 = .ok (.iconst 1, 1) := by decide +kernel
theorem dX11_lookOn_77 : decode cX11_lookOn 77 = .ok (.iadd, 1) := by decide +kernel
theorem dX11_lookOn_78 : decode cX11_lookOn 78 = .ok (.iaload, 1) := by decide +kernel
theorem dX11_lookOn_79 : decode cX11_lookOn 79 = .ok (.istore 9, 2) := by decide +kernel
theorem dX11_lookOn_81 : decode cX11_lookOn 81 = .ok (.iload 6, 2) := by decide +kernel
theorem dX11_lookOn_83 : decode cX11_lookOn 83 = .ok (.iload 4, 2) := by decide +kernel
theorem dX11_lookOn_85 : decode cX11_lookOn 85 = .ok (.iadd, 1) := by decide +kernel
theorem dX11_lookOn_86 : decode cX11_lookOn 86 = .ok (.iload_n 3, 1) := by decide +kernel
theorem dX11_lookOn_87 : decode cX11_lookOn 87 = .ok (.if_icmp .gt 121, 3) := by decide +kernel
theorem dX11_lookOn_90 : decode cX11_lookOn 90 = .ok (.aload_n 0, 1) := by decide +kernel
theorem dX11_lookOn_91 : decode cX11_lookOn 91 = .ok (.iload 8, 2) := by decide +kernel
theorem dX11_lookOn_93 : decode cX11_lookOn 93 = .ok (.iload_n 2, 1) := by decide +kernel
theorem dX11_lookOn_94 : decode cX11_lookOn 94 = .ok (.iload 6, 2) := by decide +kernel
theorem dX11_lookOn_96 : decode cX11_lookOn 96 = .ok (.iadd, 1) := by decide +kernel
theorem dX11_lookOn_97 : decode cX11_lookOn 97 = .ok (.iload 4, 2) := by decide +kernel
theorem dX11_lookOn_99 : decode cX11_lookOn 99 = .ok (.iload 5, 2) := by decide +kernel
theorem dX11_lookOn_101 : decode cX11_lookOn 101 = .ok (.invokevirtual 143, 3) := by decide +kernel
theorem dX11_lookOn_104 : decode cX11_lookOn 104 = .ok (.ifCond .eq 104, 3) := by decide +kernel
theorem dX11_lookOn_107 : decode cX11_lookOn 107 = .ok (.aload_n 0, 1) := by decide +kernel
theorem dX11_lookOn_108 : decode cX11_lookOn 108 = .ok (.iload 8, 2) := by decide +kernel
theorem dX11_lookOn_110 : decode cX11_lookOn 110 = .ok (.iload_n 2, 1) := by decide +kernel
theorem dX11_lookOn_111 : decode cX11_lookOn 111 = .ok (.iload 6, 2) := by decide +kernel
theorem dX11_lookOn_113 : decode cX11_lookOn 113 = .ok (.iadd, 1) := by decide +kernel
theorem dX11_lookOn_114 : decode cX11_lookOn 114 = .ok (.invokevirtual 134, 3) := by decide +kernel
theorem dX11_lookOn_117 : decode cX11_lookOn 117 = .ok (.istore 10, 2) := by decide +kernel
theorem dX11_lookOn_119 : decode cX11_lookOn 119 = .ok (.iload 7, 2) := by decide +kernel
theorem dX11_lookOn_121 : decode cX11_lookOn 121 = .ok (.iload 9, 2) := by decide +kernel
theorem dX11_lookOn_123 : decode cX11_lookOn 123 = .ok (.if_icmp .ne 40, 3) := by decide +kernel
theorem dX11_lookOn_126 : decode cX11_lookOn 126 = .ok (.aload_n 0, 1) := by decide +kernel
theorem dX11_lookOn_127 : decode cX11_lookOn 127 = .ok (.getfield 25, 3) := by decide +kernel
theorem dX11_lookOn_130 : decode cX11_lookOn 130 = .ok (.bipush 10, 2) := by decide +kernel
theorem dX11_lookOn_132 : decode cX11_lookOn 132 = .ok (.iload 6, 2) := by decide +kernel
theorem dX11_lookOn_134 : decode cX11_lookOn 134 = .ok (.imul, 1) := by decide +kernel
theorem dX11_lookOn_135 : decode cX11_lookOn 135 = .ok (.iload 8, 2) := by decide +kernel
theorem dX11_lookOn_137 : decode cX11_lookOn 137 = .ok (.iadd, 1) := by decide +kernel
theorem dX11_lookOn_138 : decode cX11_lookOn 138 = .ok (.iaload, 1) := by decide +kernel
theorem dX11_lookOn_139 : decode cX11_lookOn 139 = .ok (.ifCond .ne 24, 3) := by decide +kernel
theorem dX11_lookOn_142 : decode cX11_lookOn 142 = .ok (.aload_n 0, 1) := by decide +kernel
theorem dX11_lookOn_143 : decode cX11_lookOn 143 = .ok (.bipush 8, 2) := by decide +kernel
theorem dX11_lookOn_145 : decode cX11_lookOn 145 = .ok (.iload 6, 2) := by decide +kernel
theorem dX11_lookOn_147 : decode cX11_lookOn 147 = .ok (.iload 4, 2) := by decide +kernel
theorem dX11_lookOn_149 : decode cX11_lookOn 149 = .ok (.iadd, 1) := by decide +kernel
theorem dX11_lookOn_150 : decode cX11_lookOn 150 = .ok (.imul, 1) := by decide +kernel
theorem dX11_lookOn_151 : decode cX11_lookOn 151 = .ok (.iload 10, 2) := by decide +kernel
theorem dX11_lookOn_153 : decode cX11_lookOn 153 = .ok (.iadd, 1) := by decide +kernel
theorem dX11_lookOn_154 : decode cX11_lookOn 154 = .ok (.iload_n 1, 1) := by decide +kernel
theorem dX11_lookOn_155 : decode cX11_lookOn 155 = .ok (.bipush 100, 2) := by decide +kernel
theorem dX11_lookOn_157 : decode cX11_lookOn 157 = .ok (.iload 8, 2) := by decide +kernel
theorem dX11_lookOn_159 : decode cX11_lookOn 159 = .ok (.iadd, 1) := by decide +kernel
theorem dX11_lookOn_160 : decode cX11_lookOn 160 = .ok (.invokevirtual 196, 3) := by decide +kernel
theorem dX11_lookOn_163 : decode cX11_lookOn 163 = .ok (.iload 7, 2) := by decide +kernel
theorem dX11_lookOn_165 : decode cX11_lookOn 165 = .ok (.iload 10, 2) := by decide +kernel
theorem dX11_lookOn_167 : decode cX11_lookOn 167 = .ok (.if_icmp .ne 41, 3) := by decide +kernel
theorem dX11_lookOn_170 : decode cX11_lookOn 170 = .ok (.aload_n 0, 1) := by decide +kernel
theorem dX11_lookOn_171 : decode cX11_lookOn 171 = .ok (.getfield 28, 3) := by decide +kernel
theorem dX11_lookOn_174 : decode cX11_lookOn 174 = .ok (.bipush 10, 2) := by decide +kernel
theorem dX11_lookOn_176 : decode cX11_lookOn 176 = .ok (.iload 6, 2) := by decide +kernel
theorem dX11_lookOn_178 : decode cX11_lookOn 178 = .ok (.imul, 1) := by decide +kernel
theorem dX11_lookOn_179 : decode cX11_lookOn 179 = .ok (.iload 8, 2) := by decide +kernel
theorem dX11_lookOn_181 : decode cX11_lookOn 181 = .ok (.iadd, 1) := by decide +kernel
theorem dX11_lookOn_182 : decode cX11_lookOn 182 = .ok (.iaload, 1) := by decide +kernel
theorem dX11_lookOn_183 : decode cX11_lookOn 183 = .ok (.ifCond .ne 25, 3) := by decide +kernel
theorem dX11_lookOn_186 : decode cX11_lookOn 186 = .ok (.aload_n 0, 1) := by decide +kernel
theorem dX11_lookOn_187 : decode cX11_lookOn 187 = .ok (.bipush 8, 2) := by decide +kernel
theorem dX11_lookOn_189 : decode cX11_lookOn 189 = .ok (.iload 6, 2) := by decide +kernel
theorem dX11_lookOn_191 : decode cX11_lookOn 191 = .ok (.iload 4, 2) := by decide +kernel
theorem dX11_lookOn_193 : decode cX11_lookOn 193 = .ok (.iadd, 1) := by decide +kernel
theorem dX11_lookOn_194 : decode cX11_lookOn 194 = .ok (.imul, 1) := by decide +kernel
theorem dX11_lookOn_195 : decode cX11_lookOn 195 = .ok (.iload 9, 2) := by decide +kernel
theorem dX11_lookOn_197 : decode cX11_lookOn 197 = .ok (.iadd, 1) := by decide +kernel
theorem dX11_lookOn_198 : decode cX11_lookOn 198 = .ok (.iload_n 1, 1) := by decide +kernel
theorem dX11_lookOn_199 : decode cX11_lookOn 199 = .ok (.sipush 200, 3) := by decide +kernel
theorem dX11_lookOn_202 : decode cX11_lookOn 202 = .ok (.iload 8, 2) := by decide +kernel
theorem dX11_lookOn_204 : decode cX11_lookOn 204 = .ok (.iadd, 1) := by decide +kernel
theorem dX11_lookOn_205 : decode cX11_lookOn 205 = .ok (.invokevirtual 196, 3) := by decide +kernel
theorem dX11_lookOn_208 : decode cX11_lookOn 208 = .ok (.iload 6, 2) := by decide +kernel
theorem dX11_lookOn_210 : decode cX11_lookOn 210 = .ok (.iload 4, 2) := by decide +kernel
theorem dX11_lookOn_212 : decode cX11_lookOn 212 = .ok (.if_icmp .lt 136, 3) := by decide +kernel
theorem dX11_lookOn_215 : decode cX11_lookOn 215 = .ok (.aload_n 0, 1) := by decide +kernel
theorem dX11_lookOn_216 : decode cX11_lookOn 216 = .ok (.iload 8, 2) := by decide +kernel
theorem dX11_lookOn_218 : decode cX11_lookOn 218 = .ok (.iload_n 2, 1) := by decide +kernel
theorem dX11_lookOn_219 : decode cX11_lookOn 219 = .ok (.iload 6, 2) := by decide +kernel
theorem dX11_lookOn_221 : decode cX11_lookOn 221 = .ok (.iadd, 1) := by decide +kernel
theorem dX11_lookOn_222 : decode cX11_lookOn 222 = .ok (.iload 4, 2) := by decide +kernel
theorem dX11_lookOn_224 : decode cX11_lookOn 224 = .ok (.isub, 1) := by decide +kernel
theorem dX11_lookOn_225 : decode cX11_lookOn 225 = .ok (.iload 4, 2) := by decide +kernel
theorem dX11_lookOn_227 : decode cX11_lookOn 227 = .ok (.iload 5, 2) := by decide +kernel
theorem dX11_lookOn_229 : decode cX11_lookOn 229 = .ok (.invokevirtual 143, 3) := by decide +kernel
theorem dX11_lookOn_232 : decode cX11_lookOn 232 = .ok (.ifCond .eq 116, 3) := by decide +kernel
theorem dX11_lookOn_235 : decode cX11_lookOn 235 = .ok (.aload_n 0, 1) := by decide +kernel
theorem dX11_lookOn_236 : decode cX11_lookOn 236 = .ok (.iload 8, 2) := by decide +kernel
theorem dX11_lookOn_238 : decode cX11_lookOn 238 = .ok (.iload_n 2, 1) := by decide +kernel
theorem dX11_lookOn_239 : decode cX11_lookOn 239 = .ok (.iload 6, 2) := by decide +kernel
theorem dX11_lookOn_241 : decode cX11_lookOn 241 = .ok (.iadd, 1) := by decide +kernel
theorem dX11_lookOn_242 : decode cX11_lookOn 242 = .ok (.iload 4, 2) := by decide +kernel
theorem dX11_lookOn_244 : decode cX11_lookOn 244 = .ok (.isub, 1) := by decide +kernel
theorem dX11_lookOn_245 : decode cX11_lookOn 245 = .ok (.invokevirtual 134, 3) := by decide +kernel
theorem dX11_lookOn_248 : decode cX11_lookOn 248 = .ok (.istore 10, 2) := by decide +kernel
theorem dX11_lookOn_250 : decode cX11_lookOn 250 = .ok (.iload 7, 2) := by decide +kernel
theorem dX11_lookOn_252 : decode cX11_lookOn 252 = .ok (.iload 10, 2) := by decide +kernel
theorem dX11_lookOn_254 : decode cX11_lookOn 254 = .ok (.if_icmp .ne 45, 3) := by decide +kernel
theorem dX11_lookOn_257 : decode cX11_lookOn 257 = .ok (.aload_n 0, 1) := by decide +kernel
theorem dX11_lookOn_258 : decode cX11_lookOn 258 = .ok (.getfield 25, 3) := by decide +kernel
theorem dX11_lookOn_261 : decode cX11_lookOn 261 = .ok (.bipush 10, 2) := by decide +kernel
theorem dX11_lookOn_263 : decode cX11_lookOn 263 = .ok (.iload 6, 2) := by decide +kernel
theorem dX11_lookOn_265 : decode cX11_lookOn 265 = .ok (.iload 4, 2) := by decide +kernel
theorem dX11_lookOn_267 : decode cX11_lookOn 267 = .ok (.isub, 1) := by decide +kernel
theorem dX11_lookOn_268 : decode cX11_lookOn 268 = .ok (.imul, 1) := by decide +kernel
theorem dX11_lookOn_269 : decode cX11_lookOn 269 = .ok (.iload 8, 2) := by decide +kernel
theorem dX11_lookOn_271 : decode cX11_lookOn 271 = .ok (.iadd, 1) := by decide +kernel
theorem dX11_lookOn_272 : decode cX11_lookOn 272 = .ok (.iaload, 1) := by decide +kernel
theorem dX11_lookOn_273 : decode cX11_lookOn 273 = .ok (.iconst 1, 1) := by decide +kernel
theorem dX11_lookOn_274 : decode cX11_lookOn 274 = .ok (.if_icmp .ne 25, 3) := by decide +kernel
theorem dX11_lookOn_277 : decode cX11_lookOn 277 = .ok (.aload_n 0, 1) := by decide +kernel
theorem dX11_lookOn_278 : decode cX11_lookOn 278 = .ok (.bipush 8, 2) := by decide +kernel
theorem dX11_lookOn_280 : decode cX11_lookOn 280 = .ok (.iload 6, 2) := by decide +kernel
theorem dX11_lookOn_282 : decode cX11_lookOn 282 = .ok (.iload 4, 2) := by decide +kernel
theorem dX11_lookOn_284 : decode cX11_lookOn 284 = .ok (.isub, 1) := by decide +kernel
theorem dX11_lookOn_285 : decode cX11_lookOn 285 = .ok (.imul, 1) := by decide +kernel
theorem dX11_lookOn_286 : decode cX11_lookOn 286 = .ok (.iload 9, 2) := by decide +kernel
theorem dX11_lookOn_288 : decode cX11_lookOn 288 = .ok (.iadd, 1) := by decide +kernel
theorem dX11_lookOn_289 : decode cX11_lookOn 289 = .ok (.iload_n 1, 1) := by decide +kernel
theorem dX11_lookOn_290 : decode cX11_lookOn 290 = .ok (.sipush 300, 3) := by decide +kernel
theorem dX11_lookOn_293 : decode cX11_lookOn 293 = .ok (.iload 8, 2) := by decide +kernel
theorem dX11_lookOn_295 : decode cX11_lookOn 295 = .ok (.iadd, 1) := by decide +kernel
theorem dX11_lookOn_296 : decode cX11_lookOn 296 = .ok (.invokevirtual 196, 3) := by decide +kernel
theorem dX11_lookOn_299 : decode cX11_lookOn 299 = .ok (.iload 7, 2) := by decide +kernel
theorem dX11_lookOn_301 : decode cX11_lookOn 301 = .ok (.iload 9, 2) := by decide +kernel
theorem dX11_lookOn_303 : decode cX11_lookOn 303 = .ok (.if_icmp .ne 45, 3) := by decide +kernel
theorem dX11_lookOn_306 : decode cX11_lookOn 306 = .ok (.aload_n 0, 1) := by decide +kernel
theorem dX11_lookOn_307 : decode cX11_lookOn 307 = .ok (.getfield 28, 3) := by decide +kernel
theorem dX11_lookOn_310 : decode cX11_lookOn 310 = .ok (.bipush 10, 2) := by decide +kernel
theorem dX11_lookOn_312 : decode cX11_lookOn 312 = .ok (.iload 6, 2) := by decide +kernel
theorem dX11_lookOn_314 : decode cX11_lookOn 314 = .ok (.iload 4, 2) := by decide +kernel
theorem dX11_lookOn_316 : decode cX11_lookOn 316 = .ok (.isub, 1) := by decide +kernel
theorem dX11_lookOn_317 : decode cX11_lookOn 317 = .ok (.imul, 1) := by decide +kernel
theorem dX11_lookOn_318 : decode cX11_lookOn 318 = .ok (.iload 8, 2) := by decide +kernel
theorem dX11_lookOn_320 : decode cX11_lookOn 320 = .ok (.iadd, 1) := by decide +kernel
theorem dX11_lookOn_321 : decode cX11_lookOn 321 = .ok (.iaload, 1) := by decide +kernel
theorem dX11_lookOn_322 : decode cX11_lookOn 322 = .ok (.iconst 1, 1) := by decide +kernel
theorem dX11_lookOn_323 : decode cX11_lookOn 323 = .ok (.if_icmp .ne 25, 3) := by decide +kernel
theorem dX11_lookOn_326 : decode cX11_lookOn 326 = .ok (.aload_n 0, 1) := by decide +kernel
theorem dX11_lookOn_327 : decode cX11_lookOn 327 = .ok (.bipush 8, 2) := by decide +kernel
theorem dX11_lookOn_329 : decode cX11_lookOn 329 = .ok (.iload 6, 2) := by decide +kernel
theorem dX11_lookOn_331 : decode cX11_lookOn 331 = .ok (.iload 4, 2) := by decide +kernel
theorem dX11_lookOn_333 : decode cX11_lookOn 333 = .ok (.isub, 1) := by decide +kernel
theorem dX11_lookOn_334 : decode cX11_lookOn 334 = .ok (.imul, 1) := by decide +kernel
theorem dX11_lookOn_335 : decode cX11_lookOn 335 = .ok (.iload 10, 2) := by decide +kernel
theorem dX11_lookOn_337 : decode cX11_lookOn 337 = .ok (.iadd, 1) := by decide +kernel
theorem dX11_lookOn_338 : decode cX11_lookOn 338 = .ok (.iload_n 1, 1) := by decide +kernel
theorem dX11_lookOn_339 : decode cX11_lookOn 339 = .ok (.sipush 400, 3) := by decide +kernel
theorem dX11_lookOn_342 : decode cX11_lookOn 342 = .ok (.iload 8, 2) := by decide +kernel
theorem dX11_lookOn_344 : decode cX11_lookOn 344 = .ok (.iadd, 1) := by decide +kernel
theorem dX11_lookOn_345 : decode cX11_lookOn 345 = .ok (.invokevirtual 196, 3) := by decide +kernel
theorem dX11_lookOn_348 : decode cX11_lookOn 348 = .ok (.iinc 8 1, 3) := by decide +kernel
theorem dX11_lookOn_351 : decode cX11_lookOn 351 = .ok (.goto (-293), 3) := by decide +kernel
theorem dX11_lookOn_354 : decode cX11_lookOn 354 = .ok (.return_, 1) := by decide +kernel
theorem dX11_takeWay_0 : decode cX11_takeWay 0 = .ok (.iload_n 2, 1) := by decide +kernel
theorem dX11_takeWay_1 : decode cX11_takeWay 1 = .ok (.istore_n 3, 1) := by decide +kernel
theorem dX11_takeWay_2 : decode cX11_takeWay 2 = .ok (.iload_n 3, 1) := by decide +kernel
theorem dX11_takeWay_3 : decode cX11_takeWay 3 = .ok (.iload_n 1, 1) := by decide +kernel
theorem dX11_takeWay_4 : decode cX11_takeWay 4 = .ok (.if_icmp .eq 169, 3) := by decide +kernel
theorem dX11_takeWay_7 : decode cX11_takeWay 7 = .ok (.aload_n 0, 1) := by decide +kernel
theorem dX11_takeWay_8 : decode cX11_takeWay 8 = .ok (.getfield 31, 3) := by decide +kernel
theorem dX11_takeWay_11 : decode cX11_takeWay 11 = .ok (.iload_n 3, 1) := by decide +kernel
theorem dX11_takeWay_12 : decode cX11_takeWay 12 = .ok (.iaload, 1) := by decide +kernel
theorem dX11_takeWay_13 : decode cX11_takeWay 13 = .ok (.istore 4, 2) := by decide +kernel
theorem dX11_takeWay_15 : decode cX11_takeWay 15 = .ok (.aload_n 0, 1) := by decide +kernel
theorem dX11_takeWay_16 : decode cX11_takeWay 16 = .ok (.getfield 34, 3) := by decide +kernel
theorem dX11_takeWay_19 : decode cX11_takeWay 19 = .ok (.iload_n 3, 1) := by decide +kernel
theorem dX11_takeWay_20 : decode cX11_takeWay 20 = .ok (.iaload, 1) := by decide +kernel
theorem dX11_takeWay_21 : decode cX11_takeWay 21 = .ok (.istore 5, 2) := by decide +kernel
theorem dX11_takeWay_23 : decode cX11_takeWay 23 = .ok (.iload 5, 2) := by decide +kernel
theorem dX11_takeWay_25 : decode cX11_takeWay 25 = .ok (.bipush 100, 2) := by decide +kernel
theorem dX11_takeWay_27 : decode cX11_takeWay 27 = .ok (.irem, 1) := by decide +kernel
theorem dX11_takeWay_28 : decode cX11_takeWay 28 = .ok (.istore 6, 2) := by decide +kernel
theorem dX11_takeWay_30 : decode cX11_takeWay 30 = .ok (.iload 5, 2) := by decide +kernel
theorem dX11_takeWay_32 : decode cX11_takeWay 32 = .ok (.ifCond .ne 17, 3) := by decide +kernel
theorem dX11_takeWay_35 : decode cX11_takeWay 35 = .ok (.aload_n 0, 1) := by decide +kernel
theorem dX11_takeWay_36 : decode cX11_takeWay 36 = .ok (.getfield 22, 3) := by decide +kernel
theorem dX11_takeWay_39 : decode cX11_takeWay 39 = .ok (.iload 4, 2) := by decide +kernel
theorem dX11_takeWay_41 : decode cX11_takeWay 41 = .ok (.dup2, 1) := by decide +kernel
theorem dX11_takeWay_42 : decode cX11_takeWay 42 = .ok (.iaload, 1) := by decide +kernel
theorem dX11_takeWay_43 : decode cX11_takeWay 43 = .ok (.iconst 1, 1) := by decide +kernel
theorem dX11_takeWay_44 : decode cX11_takeWay 44 = .ok (.iadd, 1) := by decide +kernel
theorem dX11_takeWay_45 : decode cX11_takeWay 45 = .ok (.iastore, 1) := by decide +kernel
theorem dX11_takeWay_46 : decode cX11_takeWay 46 = .ok (.goto 121, 3) := by decide +kernel
theorem dX11_takeWay_49 : decode cX11_takeWay 49 = .ok (.iload 5, 2) := by decide +kernel
theorem dX11_takeWay_51 : decode cX11_takeWay 51 = .ok (.iconst 1, 1) := by decide +kernel
theorem dX11_takeWay_52 : decode cX11_takeWay 52 = .ok (.if_icmp .ne 16, 3) := by decide +kernel
theorem dX11_takeWay_55 : decode cX11_takeWay 55 = .ok (.aload_n 0, 1) := by decide +kernel
theorem dX11_takeWay_56 : decode cX11_takeWay 56 = .ok (.getfield 22, 3) := by decide +kernel
theorem dX11_takeWay_59 : decode cX11_takeWay 59 = .ok (.iload_n 3, 1) := by decide +kernel
theorem dX11_takeWay_60 : decode cX11_takeWay 60 = .ok (.dup2, 1) := by decide +kernel
theorem dX11_takeWay_61 : decode cX11_takeWay 61 = .ok (.iaload, 1) := by decide +kernel
theorem dX11_takeWay_62 : decode cX11_takeWay 62 = .ok (.iconst 1, 1) := by decide +kernel
theorem dX11_takeWay_63 : decode cX11_takeWay 63 = .ok (.isub, 1) := by decide +kernel
theorem dX11_takeWay_64 : decode cX11_takeWay 64 = .ok (.iastore, 1) := by decide +kernel
theorem dX11_takeWay_65 : decode cX11_takeWay 65 = .ok (.goto 102, 3) := by decide +kernel
theorem dX11_takeWay_68 : decode cX11_takeWay 68 = .ok (.iload 5, 2) := by decide +kernel
theorem dX11_takeWay_70 : decode cX11_takeWay 70 = .ok (.sipush 200, 3) := by decide +kernel
theorem dX11_takeWay_73 : decode cX11_takeWay 73 = .ok (.if_icmp .ge 23, 3) := by decide +kernel
theorem dX11_takeWay_76 : decode cX11_takeWay 76 = .ok (.aload_n 0, 1) := by decide +kernel
theorem dX11_takeWay_77 : decode cX11_takeWay 77 = .ok (.getfield 25, 3) := by decide +kernel
theorem dX11_takeWay_80 : decode cX11_takeWay 80 = .ok (.bipush 10, 2) := by decide +kernel
theorem dX11_takeWay_82 : decode cX11_takeWay 82 = .ok (.iload 4, 2) := by decide +kernel
theorem dX11_takeWay_84 : decode cX11_takeWay 84 = .ok (.bipush 8, 2) := by decide +kernel
theorem dX11_takeWay_86 : decode cX11_takeWay 86 = .ok (.idiv, 1) := by decide +kernel
theorem dX11_takeWay_87 : decode cX11_takeWay 87 = .ok (.imul, 1) := by decide +kernel
theorem dX11_takeWay_88 : decode cX11_takeWay 88 = .ok (.iload 6, 2) := by decide +kernel
theorem dX11_takeWay_90 : decode cX11_takeWay 90 = .ok (.iadd, 1) := by decide +kernel
theorem dX11_takeWay_91 : decode cX11_takeWay 91 = .ok (.iconst 1, 1) := by decide +kernel
theorem dX11_takeWay_92 : decode cX11_takeWay 92 = .ok (.iastore, 1) := by decide +kernel
theorem dX11_takeWay_93 : decode cX11_takeWay 93 = .ok (.goto 74, 3) := by decide +kernel
theorem dX11_takeWay_96 : decode cX11_takeWay 96 = .ok (.iload 5, 2) := by decide +kernel
theorem dX11_takeWay_98 : decode cX11_takeWay 98 = .ok (.sipush 300, 3) := by decide +kernel
theorem dX11_takeWay_101 : decode cX11_takeWay 101 = .ok (.if_icmp .ge 23, 3) := by decide +kernel
theorem dX11_takeWay_104 : decode cX11_takeWay 104 = .ok (.aload_n 0, 1) := by decide +kernel
theorem dX11_takeWay_105 : decode cX11_takeWay 105 = .ok (.getfield 28, 3) := by decide +kernel
theorem dX11_takeWay_108 : decode cX11_takeWay 108 = .ok (.bipush 10, 2) := by decide +kernel
theorem dX11_takeWay_110 : decode cX11_takeWay 110 = .ok (.iload 4, 2) := by decide +kernel
theorem dX11_takeWay_112 : decode cX11_takeWay 112 = .ok (.bipush 8, 2) := by decide +kernel
theorem dX11_takeWay_114 : decode cX11_takeWay 114 = .ok (.idiv, 1) := by decide +kernel
theorem dX11_takeWay_115 : decode cX11_takeWay 115 = .ok (.imul, 1) := by decide +kernel
theorem dX11_takeWay_116 : decode cX11_takeWay 116 = .ok (.iload 6, 2) := by decide +kernel
theorem dX11_takeWay_118 : decode cX11_takeWay 118 = .ok (.iadd, 1) := by decide +kernel
theorem dX11_takeWay_119 : decode cX11_takeWay 119 = .ok (.iconst 1, 1) := by decide +kernel
theorem dX11_takeWay_120 : decode cX11_takeWay 120 = .ok (.iastore, 1) := by decide +kernel
theorem dX11_takeWay_121 : decode cX11_takeWay 121 = .ok (.goto 46, 3) := by decide +kernel
theorem dX11_takeWay_124 : decode cX11_takeWay 124 = .ok (.iload 5, 2) := by decide +kernel
theorem dX11_takeWay_126 : decode cX11_takeWay 126 = .ok (.sipush 400, 3) := by decide +kernel
theorem dX11_takeWay_129 : decode cX11_takeWay 129 = .ok (.if_icmp .ge 22, 3) := by decide +kernel
theorem dX11_takeWay_132 : decode cX11_takeWay 132 = .ok (.aload_n 0, 1) := by decide +kernel
theorem dX11_takeWay_133 : decode cX11_takeWay 133 = .ok (.getfield 25, 3) := by decide +kernel
theorem dX11_takeWay_136 : decode cX11_takeWay 136 = .ok (.bipush 10, 2) := by decide +kernel
theorem dX11_takeWay_138 : decode cX11_takeWay 138 = .ok (.iload_n 3, 1) := by decide +kernel
theorem dX11_takeWay_139 : decode cX11_takeWay 139 = .ok (.bipush 8, 2) := by decide +kernel
theorem dX11_takeWay_141 : decode cX11_takeWay 141 = .ok (.idiv, 1) := by decide +kernel
theorem dX11_takeWay_142 : decode cX11_takeWay 142 = .ok (.imul, 1) := by decide +kernel
theorem dX11_takeWay_143 : decode cX11_takeWay 143 = .ok (.iload 6, 2) := by decide +kernel
theorem dX11_takeWay_145 : decode cX11_takeWay 145 = .ok (.iadd, 1) := by decide +kernel
theorem dX11_takeWay_146 : decode cX11_takeWay 146 = .ok (.iconst 0, 1) := by decide +kernel
theorem dX11_takeWay_147 : decode cX11_takeWay 147 = .ok (.iastore, 1) := by decide +kernel
theorem dX11_takeWay_148 : decode cX11_takeWay 148 = .ok (.goto 19, 3) := by decide +kernel
theorem dX11_takeWay_151 : decode cX11_takeWay 151 = .ok (.aload_n 0, 1) := by decide +kernel
theorem dX11_takeWay_152 : decode cX11_takeWay 152 = .ok (.getfield 28, 3) := by decide +kernel
theorem dX11_takeWay_155 : decode cX11_takeWay 155 = .ok (.bipush 10, 2) := by decide +kernel
theorem dX11_takeWay_157 : decode cX11_takeWay 157 = .ok (.iload_n 3, 1) := by decide +kernel
theorem dX11_takeWay_158 : decode cX11_takeWay 158 = .ok (.bipush 8, 2) := by decide +kernel
theorem dX11_takeWay_160 : decode cX11_takeWay 160 = .ok (.idiv, 1) := by decide +kernel
theorem dX11_takeWay_161 : decode cX11_takeWay 161 = .ok (.imul, 1) := by decide +kernel
theorem dX11_takeWay_162 : decode cX11_takeWay 162 = .ok (.iload 6, 2) := by decide +kernel
theorem dX11_takeWay_164 : decode cX11_takeWay 164 = .ok (.iadd, 1) := by decide +kernel
theorem dX11_takeWay_165 : decode cX11_takeWay 165 = .ok (.iconst 0, 1) := by decide +kernel
theorem dX11_takeWay_166 : decode cX11_takeWay 166 = .ok (.iastore, 1) := by decide +kernel
theorem dX11_takeWay_167 : decode cX11_takeWay 167 = .ok (.iload 4, 2) := by decide +kernel
theorem dX11_takeWay_169 : decode cX11_takeWay 169 = .ok (.istore_n 3, 1) := by decide +kernel
theorem dX11_takeWay_170 : decode cX11_takeWay 170 = .ok (.goto (-168), 3) := by decide +kernel
theorem dX11_takeWay_173 : decode cX11_takeWay 173 = .ok (.return_, 1) := by decide +kernel
theorem dX11_oneMore_0 : decode cX11_oneMore 0 = .ok (.iconst 0, 1) := by decide +kernel
theorem dX11_oneMore_1 : decode cX11_oneMore 1 = .ok (.istore 7, 2) := by decide +kernel
theorem dX11_oneMore_3 : decode cX11_oneMore 3 = .ok (.iload 7, 2) := by decide +kernel
theorem dX11_oneMore_5 : decode cX11_oneMore 5 = .ok (.sipush 488, 3) := by decide +kernel
theorem dX11_oneMore_8 : decode cX11_oneMore 8 = .ok (.if_icmp .ge 17, 3) := by decide +kernel
theorem dX11_oneMore_11 : decode cX11_oneMore 11 = .ok (.aload_n 0, 1) := by decide +kernel
theorem dX11_oneMore_12 : decode cX11_oneMore 12 = .ok (.getfield 31, 3) := by decide +kernel
theorem dX11_oneMore_15 : decode cX11_oneMore 15 = .ok (.iload 7, 2) := by decide +kernel
theorem dX11_oneMore_17 : decode cX11_oneMore 17 = .ok (.iconst (-1), 1) := by decide +kernel
theorem dX11_oneMore_18 : decode cX11_oneMore 18 = .ok (.iastore, 1) := by decide +kernel
theorem dX11_oneMore_19 : decode cX11_oneMore 19 = .ok (.iinc 7 1, 3) := by decide +kernel
theorem dX11_oneMore_22 : decode cX11_oneMore 22 = .ok (.goto (-19), 3) := by decide +kernel
theorem dX11_oneMore_25 : decode cX11_oneMore 25 = .ok (.aload_n 0, 1) := by decide +kernel
theorem dX11_oneMore_26 : decode cX11_oneMore 26 = .ok (.iconst 0, 1) := by decide +kernel
theorem dX11_oneMore_27 : decode cX11_oneMore 27 = .ok (.putfield 193, 3) := by decide +kernel
theorem dX11_oneMore_30 : decode cX11_oneMore 30 = .ok (.bipush 8, 2) := by decide +kernel
theorem dX11_oneMore_32 : decode cX11_oneMore 32 = .ok (.iload 4, 2) := by decide +kernel
theorem dX11_oneMore_34 : decode cX11_oneMore 34 = .ok (.imul, 1) := by decide +kernel
theorem dX11_oneMore_35 : decode cX11_oneMore 35 = .ok (.iload_n 2, 1) := by decide +kernel
theorem dX11_oneMore_36 : decode cX11_oneMore 36 = .ok (.iadd, 1) := by decide +kernel
theorem dX11_oneMore_37 : decode cX11_oneMore 37 = .ok (.istore 7, 2) := by decide +kernel
theorem dX11_oneMore_39 : decode cX11_oneMore 39 = .ok (.aload_n 0, 1) := by decide +kernel
theorem dX11_oneMore_40 : decode cX11_oneMore 40 = .ok (.iload_n 1, 1) := by decide +kernel
theorem dX11_oneMore_41 : decode cX11_oneMore 41 = .ok (.iload_n 1, 1) := by decide +kernel
theorem dX11_oneMore_42 : decode cX11_oneMore 42 = .ok (.iconst 0, 1) := by decide +kernel
theorem dX11_oneMore_43 : decode cX11_oneMore 43 = .ok (.invokevirtual 196, 3) := by decide +kernel
theorem dX11_oneMore_46 : decode cX11_oneMore 46 = .ok (.iconst 0, 1) := by decide +kernel
theorem dX11_oneMore_47 : decode cX11_oneMore 47 = .ok (.istore 8, 2) := by decide +kernel
theorem dX11_oneMore_49 : decode cX11_oneMore 49 = .ok (.iload 8, 2) := by decide +kernel
theorem dX11_oneMore_51 : decode cX11_oneMore 51 = .ok (.aload_n 0, 1) := by decide +kernel
theorem dX11_oneMore_52 : decode cX11_oneMore 52 = .ok (.getfield 193, 3) := by decide +kernel
theorem dX11_oneMore_55 : decode cX11_oneMore 55 = .ok (.if_icmp .ge 38, 3) := by decide +kernel
theorem dX11_oneMore_58 : decode cX11_oneMore 58 = .ok (.aload_n 0, 1) := by decide +kernel
theorem dX11_oneMore_59 : decode cX11_oneMore 59 = .ok (.getfield 31, 3) := by decide +kernel
theorem dX11_oneMore_62 : decode cX11_oneMore 62 = .ok (.iload 7, 2) := by decide +kernel
theorem dX11_oneMore_64 : decode cX11_oneMore 64 = .ok (.iaload, 1) := by decide +kernel
theorem dX11_oneMore_65 : decode cX11_oneMore 65 = .ok (.iconst (-1), 1) := by decide +kernel
theorem dX11_oneMore_66 : decode cX11_oneMore 66 = .ok (.if_icmp .ne 27, 3) := by decide +kernel
theorem dX11_oneMore_69 : decode cX11_oneMore 69 = .ok (.aload_n 0, 1) := by decide +kernel
theorem dX11_oneMore_70 : decode cX11_oneMore 70 = .ok (.aload_n 0, 1) := by decide +kernel
theorem dX11_oneMore_71 : decode cX11_oneMore 71 = .ok (.getfield 37, 3) := by decide +kernel
theorem dX11_oneMore_74 : decode cX11_oneMore 74 = .ok (.iload 8, 2) := by decide +kernel
theorem dX11_oneMore_76 : decode cX11_oneMore 76 = .ok (.iaload, 1) := by decide +kernel
theorem dX11_oneMore_77 : decode cX11_oneMore 77 = .ok (.iload_n 3, 1) := by decide +kernel
theorem dX11_oneMore_78 : decode cX11_oneMore 78 = .ok (.iload 4, 2) := by decide +kernel
theorem dX11_oneMore_80 : decode cX11_oneMore 80 = .ok (.iload 5, 2) := by decide +kernel
theorem dX11_oneMore_82 : decode cX11_oneMore 82 = .ok (.iload 6, 2) := by decide +kernel
theorem dX11_oneMore_84 : decode cX11_oneMore 84 = .ok (.invokevirtual 200, 3) := by decide +kernel
theorem dX11_oneMore_87 : decode cX11_oneMore 87 = .ok (.iinc 8 1, 3) := by decide +kernel
theorem dX11_oneMore_90 : decode cX11_oneMore 90 = .ok (.goto (-41), 3) := by decide +kernel
theorem dX11_oneMore_93 : decode cX11_oneMore 93 = .ok (.aload_n 0, 1) := by decide +kernel
theorem dX11_oneMore_94 : decode cX11_oneMore 94 = .ok (.getfield 31, 3) := by decide +kernel
theorem dX11_oneMore_97 : decode cX11_oneMore 97 = .ok (.iload 7, 2) := by decide +kernel
theorem dX11_oneMore_99 : decode cX11_oneMore 99 = .ok (.iaload, 1) := by decide +kernel
theorem dX11_oneMore_100 : decode cX11_oneMore 100 = .ok (.iconst (-1), 1) := by decide +kernel
theorem dX11_oneMore_101 : decode cX11_oneMore 101 = .ok (.if_icmp .ne 5, 3) := by decide +kernel
theorem dX11_oneMore_104 : decode cX11_oneMore 104 = .ok (.iconst 0, 1) := by decide +kernel
theorem dX11_oneMore_105 : decode cX11_oneMore 105 = .ok (.ireturn, 1) := by decide +kernel
theorem dX11_oneMore_106 : decode cX11_oneMore 106 = .ok (.aload_n 0, 1) := by decide +kernel
theorem dX11_oneMore_107 : decode cX11_oneMore 107 = .ok (.iload_n 1, 1) := by decide +kernel
theorem dX11_oneMore_108 : decode cX11_oneMore 108 = .ok (.iload 7, 2) := by decide +kernel
theorem dX11_oneMore_110 : decode cX11_oneMore 110 = .ok (.invokevirtual 203, 3) := by decide +kernel
theorem dX11_oneMore_113 : decode cX11_oneMore 113 = .ok (.iconst 1, 1) := by decide +kernel
theorem dX11_oneMore_114 : decode cX11_oneMore 114 = .ok (.ireturn, 1) := by decide +kernel
theorem dX11_crowd_0 : decode cX11_crowd 0 = .ok (.iload_n 1, 1) := by decide +kernel
theorem dX11_crowd_1 : decode cX11_crowd 1 = .ok (.invokestatic 153, 3) := by decide +kernel
theorem dX11_crowd_4 : decode cX11_crowd 4 = .ok (.ifCond .eq 10, 3) := by decide +kernel
theorem dX11_crowd_7 : decode cX11_crowd 7 = .ok (.iload_n 2, 1) := by decide +kernel
theorem dX11_crowd_8 : decode cX11_crowd 8 = .ok (.invokestatic 153, 3) := by decide +kernel
theorem dX11_crowd_11 : decode cX11_crowd 11 = .ok (.ifCond .ne 6, 3) := by decide +kernel
theorem dX11_crowd_14 : decode cX11_crowd 14 = .ok (.bipush (-101), 2) := by decide +kernel
theorem dX11_crowd_16 : decode cX11_crowd 16 = .ok (.ireturn, 1) := by decide +kernel
theorem dX11_crowd_17 : decode cX11_crowd 17 = .ok (.iload_n 3, 1) := by decide +kernel
theorem dX11_crowd_18 : decode cX11_crowd 18 = .ok (.invokestatic 156, 3) := by decide +kernel
theorem dX11_crowd_21 : decode cX11_crowd 21 = .ok (.ifCond .eq 29, 3) := by decide +kernel
theorem dX11_crowd_24 : decode cX11_crowd 24 = .ok (.iload 4, 2) := by decide +kernel
theorem dX11_crowd_26 : decode cX11_crowd 26 = .ok (.i2l, 1) := by decide +kernel
theorem dX11_crowd_27 : decode cX11_crowd 27 = .ok (.iload_n 3, 1) := by decide +kernel
theorem dX11_crowd_28 : decode cX11_crowd 28 = .ok (.i2l, 1) := by decide +kernel
theorem dX11_crowd_29 : decode cX11_crowd 29 = .ok (.iload_n 3, 1) := by decide +kernel
theorem dX11_crowd_30 : decode cX11_crowd 30 = .ok (.bipush 60, 2) := by decide +kernel
theorem dX11_crowd_32 : decode cX11_crowd 32 = .ok (.iadd, 1) := by decide +kernel
theorem dX11_crowd_33 : decode cX11_crowd 33 = .ok (.i2l, 1) := by decide +kernel
theorem dX11_crowd_34 : decode cX11_crowd 34 = .ok (.invokestatic 69, 3) := by decide +kernel
theorem dX11_crowd_37 : decode cX11_crowd 37 = .ok (.ifCond .eq 13, 3) := by decide +kernel
theorem dX11_crowd_40 : decode cX11_crowd 40 = .ok (.iload 5, 2) := by decide +kernel
theorem dX11_crowd_42 : decode cX11_crowd 42 = .ok (.iload 6, 2) := by decide +kernel
theorem dX11_crowd_44 : decode cX11_crowd 44 = .ok (.invokestatic 159, 3) := by decide +kernel
theorem dX11_crowd_47 : decode cX11_crowd 47 = .ok (.ifCond .ne 6, 3) := by decide +kernel
theorem dX11_crowd_50 : decode cX11_crowd 50 = .ok (.bipush (-102), 2) := by decide +kernel
theorem dX11_crowd_52 : decode cX11_crowd 52 = .ok (.ireturn, 1) := by decide +kernel
theorem dX11_crowd_53 : decode cX11_crowd 53 = .ok (.iload_n 1, 1) := by decide +kernel
theorem dX11_crowd_54 : decode cX11_crowd 54 = .ok (.iload_n 2, 1) := by decide +kernel
theorem dX11_crowd_55 : decode cX11_crowd 55 = .ok (.if_icmp .ne 6, 3) := by decide +kernel
theorem dX11_crowd_58 : decode cX11_crowd 58 = .ok (.bipush (-103), 2) := by decide +kernel
theorem dX11_crowd_60 : decode cX11_crowd 60 = .ok (.ireturn, 1) := by decide +kernel
theorem dX11_crowd_61 : decode cX11_crowd 61 = .ok (.iconst 0, 1) := by decide +kernel
theorem dX11_crowd_62 : decode cX11_crowd 62 = .ok (.istore 7, 2) := by decide +kernel
theorem dX11_crowd_64 : decode cX11_crowd 64 = .ok (.iload 7, 2) := by decide +kernel
theorem dX11_crowd_66 : decode cX11_crowd 66 = .ok (.sipush 488, 3) := by decide +kernel
theorem dX11_crowd_69 : decode cX11_crowd 69 = .ok (.if_icmp .ge 17, 3) := by decide +kernel
theorem dX11_crowd_72 : decode cX11_crowd 72 = .ok (.aload_n 0, 1) := by decide +kernel
theorem dX11_crowd_73 : decode cX11_crowd 73 = .ok (.getfield 22, 3) := by decide +kernel
theorem dX11_crowd_76 : decode cX11_crowd 76 = .ok (.iload 7, 2) := by decide +kernel
theorem dX11_crowd_78 : decode cX11_crowd 78 = .ok (.iconst 0, 1) := by decide +kernel
theorem dX11_crowd_79 : decode cX11_crowd 79 = .ok (.iastore, 1) := by decide +kernel
theorem dX11_crowd_80 : decode cX11_crowd 80 = .ok (.iinc 7 1, 3) := by decide +kernel
theorem dX11_crowd_83 : decode cX11_crowd 83 = .ok (.goto (-19), 3) := by decide +kernel
theorem dX11_crowd_86 : decode cX11_crowd 86 = .ok (.iconst 0, 1) := by decide +kernel
theorem dX11_crowd_87 : decode cX11_crowd 87 = .ok (.istore 7, 2) := by decide +kernel
theorem dX11_crowd_89 : decode cX11_crowd 89 = .ok (.iload 7, 2) := by decide +kernel
theorem dX11_crowd_91 : decode cX11_crowd 91 = .ok (.sipush 610, 3) := by decide +kernel
theorem dX11_crowd_94 : decode cX11_crowd 94 = .ok (.if_icmp .ge 25, 3) := by decide +kernel
theorem dX11_crowd_97 : decode cX11_crowd 97 = .ok (.aload_n 0, 1) := by decide +kernel
theorem dX11_crowd_98 : decode cX11_crowd 98 = .ok (.getfield 25, 3) := by decide +kernel
theorem dX11_crowd_101 : decode cX11_crowd 101 = .ok (.iload 7, 2) := by decide +kernel
theorem dX11_crowd_103 : decode cX11_crowd 103 = .ok (.iconst 0, 1) := by decide +kernel
theorem dX11_crowd_104 : decode cX11_crowd 104 = .ok (.iastore, 1) := by decide +kernel
theorem dX11_crowd_105 : decode cX11_crowd 105 = .ok (.aload_n 0, 1) := by decide +kernel
theorem dX11_crowd_106 : decode cX11_crowd 106 = .ok (.getfield 28, 3) := by decide +kernel
theorem dX11_crowd_109 : decode cX11_crowd 109 = .ok (.iload 7, 2) := by decide +kernel
theorem dX11_crowd_111 : decode cX11_crowd 111 = .ok (.iconst 0, 1) := by decide +kernel
theorem dX11_crowd_112 : decode cX11_crowd 112 = .ok (.iastore, 1) := by decide +kernel
theorem dX11_crowd_113 : decode cX11_crowd 113 = .ok (.iinc 7 1, 3) := by decide +kernel
theorem dX11_crowd_116 : decode cX11_crowd 116 = .ok (.goto (-27), 3) := by decide +kernel
theorem dX11_crowd_119 : decode cX11_crowd 119 = .ok (.iconst 0, 1) := by decide +kernel
theorem dX11_crowd_120 : decode cX11_crowd 120 = .ok (.istore 7, 2) := by decide +kernel
theorem dX11_crowd_122 : decode cX11_crowd 122 = .ok (.aload_n 0, 1) := by decide +kernel
theorem dX11_crowd_123 : decode cX11_crowd 123 = .ok (.iload_n 1, 1) := by decide +kernel
theorem dX11_crowd_124 : decode cX11_crowd 124 = .ok (.iload_n 2, 1) := by decide +kernel
theorem dX11_crowd_125 : decode cX11_crowd 125 = .ok (.iload_n 3, 1) := by decide +kernel
theorem dX11_crowd_126 : decode cX11_crowd 126 = .ok (.iload 4, 2) := by decide +kernel
theorem dX11_crowd_128 : decode cX11_crowd 128 = .ok (.iload_n 3, 1) := by decide +kernel
theorem dX11_crowd_129 : decode cX11_crowd 129 = .ok (.isub, 1) := by decide +kernel
theorem dX11_crowd_130 : decode cX11_crowd 130 = .ok (.iload 5, 2) := by decide +kernel
theorem dX11_crowd_132 : decode cX11_crowd 132 = .ok (.iload 6, 2) := by decide +kernel
theorem dX11_crowd_134 : decode cX11_crowd 134 = .ok (.invokevirtual 207, 3) := by decide +kernel
theorem dX11_crowd_137 : decode cX11_crowd 137 = .ok (.ifCond .eq 9, 3) := by decide +kernel
theorem dX11_crowd_140 : decode cX11_crowd 140 = .ok (.iinc 7 1, 3) := by decide +kernel
theorem dX11_crowd_143 : decode cX11_crowd 143 = .ok (.goto (-21), 3) := by decide +kernel
theorem dX11_crowd_146 : decode cX11_crowd 146 = .ok (.iload 7, 2) := by decide +kernel
theorem dX11_crowd_148 : decode cX11_crowd 148 = .ok (.ireturn, 1) := by decide +kernel
theorem dX11_stranded_0 : decode cX11_stranded 0 = .ok (.aload_n 0, 1) := by decide +kernel
theorem dX11_stranded_1 : decode cX11_stranded 1 = .ok (.iload_n 1, 1) := by decide +kernel
theorem dX11_stranded_2 : decode cX11_stranded 2 = .ok (.invokevirtual 107, 3) := by decide +kernel
theorem dX11_stranded_5 : decode cX11_stranded 5 = .ok (.ifCond .eq 10, 3) := by decide +kernel
theorem dX11_stranded_8 : decode cX11_stranded 8 = .ok (.iload_n 3, 1) := by decide +kernel
theorem dX11_stranded_9 : decode cX11_stranded 9 = .ok (.invokestatic 153, 3) := by decide +kernel
theorem dX11_stranded_12 : decode cX11_stranded 12 = .ok (.ifCond .ne 6, 3) := by decide +kernel
theorem dX11_stranded_15 : decode cX11_stranded 15 = .ok (.bipush (-101), 2) := by decide +kernel
theorem dX11_stranded_17 : decode cX11_stranded 17 = .ok (.ireturn, 1) := by decide +kernel
theorem dX11_stranded_18 : decode cX11_stranded 18 = .ok (.iload_n 2, 1) := by decide +kernel
theorem dX11_stranded_19 : decode cX11_stranded 19 = .ok (.i2l, 1) := by decide +kernel
theorem dX11_stranded_20 : decode cX11_stranded 20 = .ok (.lconst 0, 1) := by decide +kernel
theorem dX11_stranded_21 : decode cX11_stranded 21 = .ok (.aload_n 0, 1) := by decide +kernel
theorem dX11_stranded_22 : decode cX11_stranded 22 = .ok (.getfield 16, 3) := by decide +kernel
theorem dX11_stranded_25 : decode cX11_stranded 25 = .ok (.bipush 10, 2) := by decide +kernel
theorem dX11_stranded_27 : decode cX11_stranded 27 = .ok (.iload_n 1, 1) := by decide +kernel
theorem dX11_stranded_28 : decode cX11_stranded 28 = .ok (.imul, 1) := by decide +kernel
theorem dX11_stranded_29 : decode cX11_stranded 29 = .ok (.iconst 2, 1) := by decide +kernel
theorem dX11_stranded_30 : decode cX11_stranded 30 = .ok (.iadd, 1) := by decide +kernel
theorem dX11_stranded_31 : decode cX11_stranded 31 = .ok (.iaload, 1) := by decide +kernel
theorem dX11_stranded_32 : decode cX11_stranded 32 = .ok (.iconst 1, 1) := by decide +kernel
theorem dX11_stranded_33 : decode cX11_stranded 33 = .ok (.isub, 1) := by decide +kernel
theorem dX11_stranded_34 : decode cX11_stranded 34 = .ok (.i2l, 1) := by decide +kernel
theorem dX11_stranded_35 : decode cX11_stranded 35 = .ok (.invokestatic 69, 3) := by decide +kernel
theorem dX11_stranded_38 : decode cX11_stranded 38 = .ok (.ifCond .ne 6, 3) := by decide +kernel
theorem dX11_stranded_41 : decode cX11_stranded 41 = .ok (.bipush (-102), 2) := by decide +kernel
theorem dX11_stranded_43 : decode cX11_stranded 43 = .ok (.ireturn, 1) := by decide +kernel
theorem dX11_stranded_44 : decode cX11_stranded 44 = .ok (.aload_n 0, 1) := by decide +kernel
theorem dX11_stranded_45 : decode cX11_stranded 45 = .ok (.iload_n 1, 1) := by decide +kernel
theorem dX11_stranded_46 : decode cX11_stranded 46 = .ok (.putfield 59, 3) := by decide +kernel
theorem dX11_stranded_49 : decode cX11_stranded 49 = .ok (.aload_n 0, 1) := by decide +kernel
theorem dX11_stranded_50 : decode cX11_stranded 50 = .ok (.iload_n 2, 1) := by decide +kernel
theorem dX11_stranded_51 : decode cX11_stranded 51 = .ok (.putfield 128, 3) := by decide +kernel
theorem dX11_stranded_54 : decode cX11_stranded 54 = .ok (.aload_n 0, 1) := by decide +kernel
theorem dX11_stranded_55 : decode cX11_stranded 55 = .ok (.iload_n 3, 1) := by decide +kernel
theorem dX11_stranded_56 : decode cX11_stranded 56 = .ok (.iconst 0, 1) := by decide +kernel
theorem dX11_stranded_57 : decode cX11_stranded 57 = .ok (.iconst 1, 1) := by decide +kernel
theorem dX11_stranded_58 : decode cX11_stranded 58 = .ok (.iconst 1, 1) := by decide +kernel
theorem dX11_stranded_59 : decode cX11_stranded 59 = .ok (.invokevirtual 147, 3) := by decide +kernel
theorem dX11_stranded_62 : decode cX11_stranded 62 = .ok (.aload_n 0, 1) := by decide +kernel
theorem dX11_stranded_63 : decode cX11_stranded 63 = .ok (.iconst (-1), 1) := by decide +kernel
theorem dX11_stranded_64 : decode cX11_stranded 64 = .ok (.putfield 59, 3) := by decide +kernel
theorem dX11_stranded_67 : decode cX11_stranded 67 = .ok (.iconst 0, 1) := by decide +kernel
theorem dX11_stranded_68 : decode cX11_stranded 68 = .ok (.istore 4, 2) := by decide +kernel
theorem dX11_stranded_70 : decode cX11_stranded 70 = .ok (.iconst 0, 1) := by decide +kernel
theorem dX11_stranded_71 : decode cX11_stranded 71 = .ok (.istore 5, 2) := by decide +kernel
theorem dX11_stranded_73 : decode cX11_stranded 73 = .ok (.iload 5, 2) := by decide +kernel
theorem dX11_stranded_75 : decode cX11_stranded 75 = .ok (.bipush 8, 2) := by decide +kernel
theorem dX11_stranded_77 : decode cX11_stranded 77 = .ok (.if_icmp .ge 34, 3) := by decide +kernel
theorem dX11_stranded_80 : decode cX11_stranded 80 = .ok (.iload 4, 2) := by decide +kernel
theorem dX11_stranded_82 : decode cX11_stranded 82 = .ok (.aload_n 0, 1) := by decide +kernel
theorem dX11_stranded_83 : decode cX11_stranded 83 = .ok (.getfield 19, 3) := by decide +kernel
theorem dX11_stranded_86 : decode cX11_stranded 86 = .ok (.iload 5, 2) := by decide +kernel
theorem dX11_stranded_88 : decode cX11_stranded 88 = .ok (.iaload, 1) := by decide +kernel
theorem dX11_stranded_89 : decode cX11_stranded 89 = .ok (.ldc 142, 2) := by decide +kernel
theorem dX11_stranded_91 : decode cX11_stranded 91 = .ok (.if_icmp .ne 10, 3) := by decide +kernel
theorem dX11_stranded_94 : decode cX11_stranded 94 = .ok (.iconst 1, 1) := by decide +kernel
theorem dX11_stranded_95 : decode cX11_stranded 95 = .ok (.iload 5, 2) := by decide +kernel
theorem dX11_stranded_97 : decode cX11_stranded 97 = .ok (.ishl, 1) := by decide +kernel
theorem dX11_stranded_98 : decode cX11_stranded 98 = .ok (.goto 4, 3) := by decide +kernel
theorem dX11_stranded_101 : decode cX11_stranded 101 = .ok (.iconst 0, 1) := by decide +kernel
theorem dX11_stranded_102 : decode cX11_stranded 102 = .ok (.ior, 1) := by decide +kernel
theorem dX11_stranded_103 : decode cX11_stranded 103 = .ok (.istore 4, 2) := by decide +kernel
theorem dX11_stranded_105 : decode cX11_stranded 105 = .ok (.iinc 5 1, 3) := by decide +kernel
theorem dX11_stranded_108 : decode cX11_stranded 108 = .ok (.goto (-35), 3) := by decide +kernel
theorem dX11_stranded_111 : decode cX11_stranded 111 = .ok (.iload 4, 2) := by decide +kernel
theorem dX11_stranded_113 : decode cX11_stranded 113 = .ok (.ireturn, 1) := by decide +kernel
theorem dX11_meeting_0 : decode cX11_meeting 0 = .ok (.iload_n 1, 1) := by decide +kernel
theorem dX11_meeting_1 : decode cX11_meeting 1 = .ok (.invokestatic 153, 3) := by decide +kernel
theorem dX11_meeting_4 : decode cX11_meeting 4 = .ok (.ifCond .eq 10, 3) := by decide +kernel
theorem dX11_meeting_7 : decode cX11_meeting 7 = .ok (.iload_n 2, 1) := by decide +kernel
theorem dX11_meeting_8 : decode cX11_meeting 8 = .ok (.invokestatic 153, 3) := by decide +kernel
theorem dX11_meeting_11 : decode cX11_meeting 11 = .ok (.ifCond .ne 6, 3) := by decide +kernel
theorem dX11_meeting_14 : decode cX11_meeting 14 = .ok (.bipush (-101), 2) := by decide +kernel
theorem dX11_meeting_16 : decode cX11_meeting 16 = .ok (.ireturn, 1) := by decide +kernel
theorem dX11_meeting_17 : decode cX11_meeting 17 = .ok (.iload_n 3, 1) := by decide +kernel
theorem dX11_meeting_18 : decode cX11_meeting 18 = .ok (.invokestatic 156, 3) := by decide +kernel
theorem dX11_meeting_21 : decode cX11_meeting 21 = .ok (.ifCond .eq 24, 3) := by decide +kernel
theorem dX11_meeting_24 : decode cX11_meeting 24 = .ok (.iload 4, 2) := by decide +kernel
theorem dX11_meeting_26 : decode cX11_meeting 26 = .ok (.iload 5, 2) := by decide +kernel
theorem dX11_meeting_28 : decode cX11_meeting 28 = .ok (.invokestatic 159, 3) := by decide +kernel
theorem dX11_meeting_31 : decode cX11_meeting 31 = .ok (.ifCond .eq 14, 3) := by decide +kernel
theorem dX11_meeting_34 : decode cX11_meeting 34 = .ok (.iload 6, 2) := by decide +kernel
theorem dX11_meeting_36 : decode cX11_meeting 36 = .ok (.i2l, 1) := by decide +kernel
theorem dX11_meeting_37 : decode cX11_meeting 37 = .ok (.lconst 0, 1) := by decide +kernel
theorem dX11_meeting_38 : decode cX11_meeting 38 = .ok (.lconst 1, 1) := by decide +kernel
theorem dX11_meeting_39 : decode cX11_meeting 39 = .ok (.invokestatic 69, 3) := by decide +kernel
theorem dX11_meeting_42 : decode cX11_meeting 42 = .ok (.ifCond .ne 6, 3) := by decide +kernel
theorem dX11_meeting_45 : decode cX11_meeting 45 = .ok (.bipush (-102), 2) := by decide +kernel
theorem dX11_meeting_47 : decode cX11_meeting 47 = .ok (.ireturn, 1) := by decide +kernel
theorem dX11_meeting_48 : decode cX11_meeting 48 = .ok (.aload_n 0, 1) := by decide +kernel
theorem dX11_meeting_49 : decode cX11_meeting 49 = .ok (.iload_n 1, 1) := by decide +kernel
theorem dX11_meeting_50 : decode cX11_meeting 50 = .ok (.iload_n 3, 1) := by decide +kernel
theorem dX11_meeting_51 : decode cX11_meeting 51 = .ok (.iload 4, 2) := by decide +kernel
theorem dX11_meeting_53 : decode cX11_meeting 53 = .ok (.iload 5, 2) := by decide +kernel
theorem dX11_meeting_55 : decode cX11_meeting 55 = .ok (.invokevirtual 147, 3) := by decide +kernel
theorem dX11_meeting_58 : decode cX11_meeting 58 = .ok (.iconst 0, 1) := by decide +kernel
theorem dX11_meeting_59 : decode cX11_meeting 59 = .ok (.istore 7, 2) := by decide +kernel
theorem dX11_meeting_61 : decode cX11_meeting 61 = .ok (.iload 7, 2) := by decide +kernel
theorem dX11_meeting_63 : decode cX11_meeting 63 = .ok (.bipush 8, 2) := by decide +kernel
theorem dX11_meeting_65 : decode cX11_meeting 65 = .ok (.if_icmp .ge 23, 3) := by decide +kernel
theorem dX11_meeting_68 : decode cX11_meeting 68 = .ok (.aload_n 0, 1) := by decide +kernel
theorem dX11_meeting_69 : decode cX11_meeting 69 = .ok (.getfield 40, 3) := by decide +kernel
theorem dX11_meeting_72 : decode cX11_meeting 72 = .ok (.iload 7, 2) := by decide +kernel
theorem dX11_meeting_74 : decode cX11_meeting 74 = .ok (.aload_n 0, 1) := by decide +kernel
theorem dX11_meeting_75 : decode cX11_meeting 75 = .ok (.getfield 19, 3) := by decide +kernel
theorem dX11_meeting_78 : decode cX11_meeting 78 = .ok (.iload 7, 2) := by decide +kernel
theorem dX11_meeting_80 : decode cX11_meeting 80 = .ok (.iaload, 1) := by decide +kernel
theorem dX11_meeting_81 : decode cX11_meeting 81 = .ok (.iastore, 1) := by decide +kernel
theorem dX11_meeting_82 : decode cX11_meeting 82 = .ok (.iinc 7 1, 3) := by decide +kernel
theorem dX11_meeting_85 : decode cX11_meeting 85 = .ok (.goto (-24), 3) := by decide +kernel
theorem dX11_meeting_88 : decode cX11_meeting 88 = .ok (.aload_n 0, 1) := by decide +kernel
theorem dX11_meeting_89 : decode cX11_meeting 89 = .ok (.iload_n 2, 1) := by decide +kernel
theorem dX11_meeting_90 : decode cX11_meeting 90 = .ok (.iload_n 3, 1) := by decide +kernel
theorem dX11_meeting_91 : decode cX11_meeting 91 = .ok (.iload 4, 2) := by decide +kernel
theorem dX11_meeting_93 : decode cX11_meeting 93 = .ok (.iload 5, 2) := by decide +kernel
theorem dX11_meeting_95 : decode cX11_meeting 95 = .ok (.invokevirtual 147, 3) := by decide +kernel
theorem dX11_meeting_98 : decode cX11_meeting 98 = .ok (.iconst (-1), 1) := by decide +kernel
theorem dX11_meeting_99 : decode cX11_meeting 99 = .ok (.istore 7, 2) := by decide +kernel
theorem dX11_meeting_101 : decode cX11_meeting 101 = .ok (.ldc 142, 2) := by decide +kernel
theorem dX11_meeting_103 : decode cX11_meeting 103 = .ok (.istore 8, 2) := by decide +kernel
theorem dX11_meeting_105 : decode cX11_meeting 105 = .ok (.iconst 0, 1) := by decide +kernel
theorem dX11_meeting_106 : decode cX11_meeting 106 = .ok (.istore 9, 2) := by decide +kernel
theorem dX11_meeting_108 : decode cX11_meeting 108 = .ok (.iload 9, 2) := by decide +kernel
theorem dX11_meeting_110 : decode cX11_meeting 110 = .ok (.bipush 8, 2) := by decide +kernel
theorem dX11_meeting_112 : decode cX11_meeting 112 = .ok (.if_icmp .ge 77, 3) := by decide +kernel
theorem dX11_meeting_115 : decode cX11_meeting 115 = .ok (.aload_n 0, 1) := by decide +kernel
theorem dX11_meeting_116 : decode cX11_meeting 116 = .ok (.getfield 19, 3) := by decide +kernel
theorem dX11_meeting_119 : decode cX11_meeting 119 = .ok (.iload 9, 2) := by decide +kernel
theorem dX11_meeting_121 : decode cX11_meeting 121 = .ok (.iaload, 1) := by decide +kernel
theorem dX11_meeting_122 : decode cX11_meeting 122 = .ok (.aload_n 0, 1) := by decide +kernel
theorem dX11_meeting_123 : decode cX11_meeting 123 = .ok (.getfield 40, 3) := by decide +kernel
theorem dX11_meeting_126 : decode cX11_meeting 126 = .ok (.iload 9, 2) := by decide +kernel
theorem dX11_meeting_128 : decode cX11_meeting 128 = .ok (.iaload, 1) := by decide +kernel
theorem dX11_meeting_129 : decode cX11_meeting 129 = .ok (.if_icmp .le 13, 3) := by decide +kernel
theorem dX11_meeting_132 : decode cX11_meeting 132 = .ok (.aload_n 0, 1) := by decide +kernel
theorem dX11_meeting_133 : decode cX11_meeting 133 = .ok (.getfield 19, 3) := by decide +kernel
theorem dX11_meeting_136 : decode cX11_meeting 136 = .ok (.iload 9, 2) := by decide +kernel
theorem dX11_meeting_138 : decode cX11_meeting 138 = .ok (.iaload, 1) := by decide +kernel
theorem dX11_meeting_139 : decode cX11_meeting 139 = .ok (.goto 10, 3) := by decide +kernel
theorem dX11_meeting_142 : decode cX11_meeting 142 = .ok (.aload_n 0, 1) := by decide +kernel
theorem dX11_meeting_143 : decode cX11_meeting 143 = .ok (.getfield 40, 3) := by decide +kernel
theorem dX11_meeting_146 : decode cX11_meeting 146 = .ok (.iload 9, 2) := by decide +kernel
theorem dX11_meeting_148 : decode cX11_meeting 148 = .ok (.iaload, 1) := by decide +kernel
theorem dX11_meeting_149 : decode cX11_meeting 149 = .ok (.istore 10, 2) := by decide +kernel
theorem dX11_meeting_151 : decode cX11_meeting 151 = .ok (.iload 10, 2) := by decide +kernel
theorem dX11_meeting_153 : decode cX11_meeting 153 = .ok (.iload 8, 2) := by decide +kernel
theorem dX11_meeting_155 : decode cX11_meeting 155 = .ok (.if_icmp .ge 8, 3) := by decide +kernel
theorem dX11_meeting_158 : decode cX11_meeting 158 = .ok (.iload 9, 2) := by decide +kernel
theorem dX11_meeting_160 : decode cX11_meeting 160 = .ok (.goto 5, 3) := by decide +kernel
theorem dX11_meeting_163 : decode cX11_meeting 163 = .ok (.iload 7, 2) := by decide +kernel
theorem dX11_meeting_165 : decode cX11_meeting 165 = .ok (.istore 7, 2) := by decide +kernel
theorem dX11_meeting_167 : decode cX11_meeting 167 = .ok (.iload 10, 2) := by decide +kernel
theorem dX11_meeting_169 : decode cX11_meeting 169 = .ok (.iload 8, 2) := by decide +kernel
theorem dX11_meeting_171 : decode cX11_meeting 171 = .ok (.if_icmp .ge 8, 3) := by decide +kernel
theorem dX11_meeting_174 : decode cX11_meeting 174 = .ok (.iload 10, 2) := by decide +kernel
theorem dX11_meeting_176 : decode cX11_meeting 176 = .ok (.goto 5, 3) := by decide +kernel
theorem dX11_meeting_179 : decode cX11_meeting 179 = .ok (.iload 8, 2) := by decide +kernel
theorem dX11_meeting_181 : decode cX11_meeting 181 = .ok (.istore 8, 2) := by decide +kernel
theorem dX11_meeting_183 : decode cX11_meeting 183 = .ok (.iinc 9 1, 3) := by decide +kernel
theorem dX11_meeting_186 : decode cX11_meeting 186 = .ok (.goto (-78), 3) := by decide +kernel
theorem dX11_meeting_189 : decode cX11_meeting 189 = .ok (.iload 7, 2) := by decide +kernel
theorem dX11_meeting_191 : decode cX11_meeting 191 = .ok (.iconst (-1), 1) := by decide +kernel
theorem dX11_meeting_192 : decode cX11_meeting 192 = .ok (.if_icmp .eq 8, 3) := by decide +kernel
theorem dX11_meeting_195 : decode cX11_meeting 195 = .ok (.iload 6, 2) := by decide +kernel
theorem dX11_meeting_197 : decode cX11_meeting 197 = .ok (.ifCond .ne 8, 3) := by decide +kernel
theorem dX11_meeting_200 : decode cX11_meeting 200 = .ok (.iload 7, 2) := by decide +kernel
theorem dX11_meeting_202 : decode cX11_meeting 202 = .ok (.goto 5, 3) := by decide +kernel
theorem dX11_meeting_205 : decode cX11_meeting 205 = .ok (.iload 8, 2) := by decide +kernel
theorem dX11_meeting_207 : decode cX11_meeting 207 = .ok (.ireturn, 1) := by decide +kernel
theorem dX11_note_0 : decode cX11_note 0 = .ok (.iload_n 1, 1) := by decide +kernel
theorem dX11_note_1 : decode cX11_note 1 = .ok (.invokestatic 153, 3) := by decide +kernel
theorem dX11_note_4 : decode cX11_note 4 = .ok (.ifCond .eq 10, 3) := by decide +kernel
theorem dX11_note_7 : decode cX11_note 7 = .ok (.iload_n 3, 1) := by decide +kernel
theorem dX11_note_8 : decode cX11_note 8 = .ok (.invokestatic 153, 3) := by decide +kernel
theorem dX11_note_11 : decode cX11_note 11 = .ok (.ifCond .ne 6, 3) := by decide +kernel
theorem dX11_note_14 : decode cX11_note 14 = .ok (.bipush (-101), 2) := by decide +kernel
theorem dX11_note_16 : decode cX11_note 16 = .ok (.ireturn, 1) := by decide +kernel
theorem dX11_note_17 : decode cX11_note 17 = .ok (.iload_n 2, 1) := by decide +kernel
theorem dX11_note_18 : decode cX11_note 18 = .ok (.i2l, 1) := by decide +kernel
theorem dX11_note_19 : decode cX11_note 19 = .ok (.lconst 0, 1) := by decide +kernel
theorem dX11_note_20 : decode cX11_note 20 = .ok (.ldc2_w 211, 3) := by decide +kernel
theorem dX11_note_23 : decode cX11_note 23 = .ok (.invokestatic 69, 3) := by decide +kernel
theorem dX11_note_26 : decode cX11_note 26 = .ok (.ifCond .eq 20, 3) := by decide +kernel
theorem dX11_note_29 : decode cX11_note 29 = .ok (.iload 4, 2) := by decide +kernel
theorem dX11_note_31 : decode cX11_note 31 = .ok (.i2l, 1) := by decide +kernel
theorem dX11_note_32 : decode cX11_note 32 = .ok (.iload_n 2, 1) := by decide +kernel
theorem dX11_note_33 : decode cX11_note 33 = .ok (.i2l, 1) := by decide +kernel
theorem dX11_note_34 : decode cX11_note 34 = .ok (.iload_n 2, 1) := by decide +kernel
theorem dX11_note_35 : decode cX11_note 35 = .ok (.sipush 400, 3) := by decide +kernel
theorem dX11_note_38 : decode cX11_note 38 = .ok (.iadd, 1) := by decide +kernel
theorem dX11_note_39 : decode cX11_note 39 = .ok (.i2l, 1) := by decide +kernel
theorem dX11_note_40 : decode cX11_note 40 = .ok (.invokestatic 69, 3) := by decide +kernel
theorem dX11_note_43 : decode cX11_note 43 = .ok (.ifCond .ne 6, 3) := by decide +kernel
theorem dX11_note_46 : decode cX11_note 46 = .ok (.bipush (-102), 2) := by decide +kernel
theorem dX11_note_48 : decode cX11_note 48 = .ok (.ireturn, 1) := by decide +kernel
theorem dX11_note_49 : decode cX11_note 49 = .ok (.aload_n 0, 1) := by decide +kernel
theorem dX11_note_50 : decode cX11_note 50 = .ok (.getfield 213, 3) := by decide +kernel
theorem dX11_note_53 : decode cX11_note 53 = .ok (.bipush 6, 2) := by decide +kernel
theorem dX11_note_55 : decode cX11_note 55 = .ok (.if_icmp .ne 6, 3) := by decide +kernel
theorem dX11_note_58 : decode cX11_note 58 = .ok (.bipush (-104), 2) := by decide +kernel
theorem dX11_note_60 : decode cX11_note 60 = .ok (.ireturn, 1) := by decide +kernel
theorem dX11_note_61 : decode cX11_note 61 = .ok (.aload_n 0, 1) := by decide +kernel
theorem dX11_note_62 : decode cX11_note 62 = .ok (.getfield 43, 3) := by decide +kernel
theorem dX11_note_65 : decode cX11_note 65 = .ok (.iconst 4, 1) := by decide +kernel
theorem dX11_note_66 : decode cX11_note 66 = .ok (.aload_n 0, 1) := by decide +kernel
theorem dX11_note_67 : decode cX11_note 67 = .ok (.getfield 213, 3) := by decide +kernel
theorem dX11_note_70 : decode cX11_note 70 = .ok (.imul, 1) := by decide +kernel
theorem dX11_note_71 : decode cX11_note 71 = .ok (.iload_n 1, 1) := by decide +kernel
theorem dX11_note_72 : decode cX11_note 72 = .ok (.iastore, 1) := by decide +kernel
theorem dX11_note_73 : decode cX11_note 73 = .ok (.aload_n 0, 1) := by decide +kernel
theorem dX11_note_74 : decode cX11_note 74 = .ok (.getfield 43, 3) := by decide +kernel
theorem dX11_note_77 : decode cX11_note 77 = .ok (.iconst 4, 1) := by decide +kernel
theorem dX11_note_78 : decode cX11_note 78 = .ok (.aload_n 0, 1) := by decide +kernel
theorem dX11_note_79 : decode cX11_note 79 = .ok (.getfield 213, 3) := by decide +kernel
theorem dX11_note_82 : decode cX11_note 82 = .ok (.imul, 1) := by decide +kernel
theorem dX11_note_83 : decode cX11_note 83 = .ok (.iconst 1, 1) := by decide +kernel
theorem dX11_note_84 : decode cX11_note 84 = .ok (.iadd, 1) := by decide +kernel
theorem dX11_note_85 : decode cX11_note 85 = .ok (.iload_n 2, 1) := by decide +kernel
theorem dX11_note_86 : decode cX11_note 86 = .ok (.iastore, 1) := by decide +kernel
theorem dX11_note_87 : decode cX11_note 87 = .ok (.aload_n 0, 1) := by decide +kernel
theorem dX11_note_88 : decode cX11_note 88 = .ok (.getfield 43, 3) := by decide +kernel
theorem dX11_note_91 : decode cX11_note 91 = .ok (.iconst 4, 1) := by decide +kernel
theorem dX11_note_92 : decode cX11_note 92 = .ok (.aload_n 0, 1) := by decide +kernel
theorem dX11_note_93 : decode cX11_note 93 = .ok (.getfield 213, 3) := by decide +kernel
theorem dX11_note_96 : decode cX11_note 96 = .ok (.imul, 1) := by decide +kernel
theorem dX11_note_97 : decode cX11_note 97 = .ok (.iconst 2, 1) := by decide +kernel
theorem dX11_note_98 : decode cX11_note 98 = .ok (.iadd, 1) := by decide +kernel
theorem dX11_note_99 : decode cX11_note 99 = .ok (.iload_n 3, 1) := by decide +kernel
theorem dX11_note_100 : decode cX11_note 100 = .ok (.iastore, 1) := by decide +kernel
theorem dX11_note_101 : decode cX11_note 101 = .ok (.aload_n 0, 1) := by decide +kernel
theorem dX11_note_102 : decode cX11_note 102 = .ok (.getfield 43, 3) := by decide +kernel
theorem dX11_note_105 : decode cX11_note 105 = .ok (.iconst 4, 1) := by decide +kernel
theorem dX11_note_106 : decode cX11_note 106 = .ok (.aload_n 0, 1) := by decide +kernel
theorem dX11_note_107 : decode cX11_note 107 = .ok (.getfield 213, 3) := by decide +kernel
theorem dX11_note_110 : decode cX11_note 110 = .ok (.imul, 1) := by decide +kernel
theorem dX11_note_111 : decode cX11_note 111 = .ok (.iconst 3, 1) := by decide +kernel
theorem dX11_note_112 : decode cX11_note 112 = .ok (.iadd, 1) := by decide +kernel
theorem dX11_note_113 : decode cX11_note 113 = .ok (.iload 4, 2) := by decide +kernel
theorem dX11_note_115 : decode cX11_note 115 = .ok (.iastore, 1) := by decide +kernel
theorem dX11_note_116 : decode cX11_note 116 = .ok (.aload_n 0, 1) := by decide +kernel
theorem dX11_note_117 : decode cX11_note 117 = .ok (.dup, 1) := by decide +kernel
theorem dX11_note_118 : decode cX11_note 118 = .ok (.getfield 213, 3) := by decide +kernel
theorem dX11_note_121 : decode cX11_note 121 = .ok (.iconst 1, 1) := by decide +kernel
theorem dX11_note_122 : decode cX11_note 122 = .ok (.iadd, 1) := by decide +kernel
theorem dX11_note_123 : decode cX11_note 123 = .ok (.putfield 213, 3) := by decide +kernel
theorem dX11_note_126 : decode cX11_note 126 = .ok (.aload_n 0, 1) := by decide +kernel
theorem dX11_note_127 : decode cX11_note 127 = .ok (.getfield 213, 3) := by decide +kernel
theorem dX11_note_130 : decode cX11_note 130 = .ok (.ireturn, 1) := by decide +kernel
theorem dX11_forget_0 : decode cX11_forget 0 = .ok (.aload_n 0, 1) := by decide +kernel
theorem dX11_forget_1 : decode cX11_forget 1 = .ok (.getfield 213, 3) := by decide +kernel
theorem dX11_forget_4 : decode cX11_forget 4 = .ok (.istore_n 1, 1) := by decide +kernel
theorem dX11_forget_5 : decode cX11_forget 5 = .ok (.aload_n 0, 1) := by decide +kernel
theorem dX11_forget_6 : decode cX11_forget 6 = .ok (.iconst 0, 1) := by decide +kernel
theorem dX11_forget_7 : decode cX11_forget 7 = .ok (.putfield 213, 3) := by decide +kernel
theorem dX11_forget_10 : decode cX11_forget 10 = .ok (.iload_n 1, 1) := by decide +kernel
theorem dX11_forget_11 : decode cX11_forget 11 = .ok (.ireturn, 1) := by decide +kernel
theorem dX11_areSo_0 : decode cX11_areSo 0 = .ok (.iconst 1, 1) := by decide +kernel
theorem dX11_areSo_1 : decode cX11_areSo 1 = .ok (.istore_n 1, 1) := by decide +kernel
theorem dX11_areSo_2 : decode cX11_areSo 2 = .ok (.iconst 0, 1) := by decide +kernel
theorem dX11_areSo_3 : decode cX11_areSo 3 = .ok (.istore_n 2, 1) := by decide +kernel
theorem dX11_areSo_4 : decode cX11_areSo 4 = .ok (.iload_n 2, 1) := by decide +kernel
theorem dX11_areSo_5 : decode cX11_areSo 5 = .ok (.aload_n 0, 1) := by decide +kernel
theorem dX11_areSo_6 : decode cX11_areSo 6 = .ok (.getfield 213, 3) := by decide +kernel
theorem dX11_areSo_9 : decode cX11_areSo 9 = .ok (.if_icmp .ge 66, 3) := by decide +kernel
theorem dX11_areSo_12 : decode cX11_areSo 12 = .ok (.iload_n 1, 1) := by decide +kernel
theorem dX11_areSo_13 : decode cX11_areSo 13 = .ok (.ifCond .eq 62, 3) := by decide +kernel
theorem dX11_areSo_16 : decode cX11_areSo 16 = .ok (.aload_n 0, 1) := by decide +kernel
theorem dX11_areSo_17 : decode cX11_areSo 17 = .ok (.aload_n 0, 1) := by decide +kernel
theorem dX11_areSo_18 : decode cX11_areSo 18 = .ok (.getfield 43, 3) := by decide +kernel
theorem dX11_areSo_21 : decode cX11_areSo 21 = .ok (.iconst 4, 1) := by decide +kernel
theorem dX11_areSo_22 : decode cX11_areSo 22 = .ok (.iload_n 2, 1) := by decide +kernel
theorem dX11_areSo_23 : decode cX11_areSo 23 = .ok (.imul, 1) := by decide +kernel
theorem dX11_areSo_24 : decode cX11_areSo 24 = .ok (.iaload, 1) := by decide +kernel
theorem dX11_areSo_25 : decode cX11_areSo 25 = .ok (.aload_n 0, 1) := by decide +kernel
theorem dX11_areSo_26 : decode cX11_areSo 26 = .ok (.getfield 43, 3) := by decide +kernel
theorem dX11_areSo_29 : decode cX11_areSo 29 = .ok (.iconst 4, 1) := by decide +kernel
theorem dX11_areSo_30 : decode cX11_areSo 30 = .ok (.iload_n 2, 1) := by decide +kernel
theorem dX11_areSo_31 : decode cX11_areSo 31 = .ok (.imul, 1) := by decide +kernel
theorem dX11_areSo_32 : decode cX11_areSo 32 = .ok (.iconst 2, 1) := by decide +kernel
theorem dX11_areSo_33 : decode cX11_areSo 33 = .ok (.iadd, 1) := by decide +kernel
theorem dX11_areSo_34 : decode cX11_areSo 34 = .ok (.iaload, 1) := by decide +kernel
theorem dX11_areSo_35 : decode cX11_areSo 35 = .ok (.aload_n 0, 1) := by decide +kernel
theorem dX11_areSo_36 : decode cX11_areSo 36 = .ok (.getfield 43, 3) := by decide +kernel
theorem dX11_areSo_39 : decode cX11_areSo 39 = .ok (.iconst 4, 1) := by decide +kernel
theorem dX11_areSo_40 : decode cX11_areSo 40 = .ok (.iload_n 2, 1) := by decide +kernel
theorem dX11_areSo_41 : decode cX11_areSo 41 = .ok (.imul, 1) := by decide +kernel
theorem dX11_areSo_42 : decode cX11_areSo 42 = .ok (.iconst 1, 1) := by decide +kernel
theorem dX11_areSo_43 : decode cX11_areSo 43 = .ok (.iadd, 1) := by decide +kernel
theorem dX11_areSo_44 : decode cX11_areSo 44 = .ok (.iaload, 1) := by decide +kernel
theorem dX11_areSo_45 : decode cX11_areSo 45 = .ok (.iconst 1, 1) := by decide +kernel
theorem dX11_areSo_46 : decode cX11_areSo 46 = .ok (.iconst 1, 1) := by decide +kernel
theorem dX11_areSo_47 : decode cX11_areSo 47 = .ok (.invokevirtual 163, 3) := by decide +kernel
theorem dX11_areSo_50 : decode cX11_areSo 50 = .ok (.aload_n 0, 1) := by decide +kernel
theorem dX11_areSo_51 : decode cX11_areSo 51 = .ok (.getfield 43, 3) := by decide +kernel
theorem dX11_areSo_54 : decode cX11_areSo 54 = .ok (.iconst 4, 1) := by decide +kernel
theorem dX11_areSo_55 : decode cX11_areSo 55 = .ok (.iload_n 2, 1) := by decide +kernel
theorem dX11_areSo_56 : decode cX11_areSo 56 = .ok (.imul, 1) := by decide +kernel
theorem dX11_areSo_57 : decode cX11_areSo 57 = .ok (.iconst 3, 1) := by decide +kernel
theorem dX11_areSo_58 : decode cX11_areSo 58 = .ok (.iadd, 1) := by decide +kernel
theorem dX11_areSo_59 : decode cX11_areSo 59 = .ok (.iaload, 1) := by decide +kernel
theorem dX11_areSo_60 : decode cX11_areSo 60 = .ok (.if_icmp .ne 7, 3) := by decide +kernel
theorem dX11_areSo_63 : decode cX11_areSo 63 = .ok (.iconst 1, 1) := by decide +kernel
theorem dX11_areSo_64 : decode cX11_areSo 64 = .ok (.goto 4, 3) := by decide +kernel
theorem dX11_areSo_67 : decode cX11_areSo 67 = .ok (.iconst 0, 1) := by decide +kernel
theorem dX11_areSo_68 : decode cX11_areSo 68 = .ok (.istore_n 1, 1) := by decide +kernel
theorem dX11_areSo_69 : decode cX11_areSo 69 = .ok (.iinc 2 1, 3) := by decide +kernel
theorem dX11_areSo_72 : decode cX11_areSo 72 = .ok (.goto (-68), 3) := by decide +kernel
theorem dX11_areSo_75 : decode cX11_areSo 75 = .ok (.iload_n 1, 1) := by decide +kernel
theorem dX11_areSo_76 : decode cX11_areSo 76 = .ok (.ireturn, 1) := by decide +kernel
theorem dX11_lost_0 : decode cX11_lost 0 = .ok (.aload_n 0, 1) := by decide +kernel
theorem dX11_lost_1 : decode cX11_lost 1 = .ok (.iload_n 1, 1) := by decide +kernel
theorem dX11_lost_2 : decode cX11_lost 2 = .ok (.invokevirtual 107, 3) := by decide +kernel
theorem dX11_lost_5 : decode cX11_lost 5 = .ok (.ifCond .ne 6, 3) := by decide +kernel
theorem dX11_lost_8 : decode cX11_lost 8 = .ok (.bipush (-101), 2) := by decide +kernel
theorem dX11_lost_10 : decode cX11_lost 10 = .ok (.ireturn, 1) := by decide +kernel
theorem dX11_lost_11 : decode cX11_lost 11 = .ok (.aload_n 0, 1) := by decide +kernel
theorem dX11_lost_12 : decode cX11_lost 12 = .ok (.getfield 16, 3) := by decide +kernel
theorem dX11_lost_15 : decode cX11_lost 15 = .ok (.bipush 10, 2) := by decide +kernel
theorem dX11_lost_17 : decode cX11_lost 17 = .ok (.iload_n 1, 1) := by decide +kernel
theorem dX11_lost_18 : decode cX11_lost 18 = .ok (.imul, 1) := by decide +kernel
theorem dX11_lost_19 : decode cX11_lost 19 = .ok (.bipush 8, 2) := by decide +kernel
theorem dX11_lost_21 : decode cX11_lost 21 = .ok (.iadd, 1) := by decide +kernel
theorem dX11_lost_22 : decode cX11_lost 22 = .ok (.iaload, 1) := by decide +kernel
theorem dX11_lost_23 : decode cX11_lost 23 = .ok (.istore_n 2, 1) := by decide +kernel
theorem dX11_lost_24 : decode cX11_lost 24 = .ok (.iconst 0, 1) := by decide +kernel
theorem dX11_lost_25 : decode cX11_lost 25 = .ok (.istore_n 3, 1) := by decide +kernel
theorem dX11_lost_26 : decode cX11_lost 26 = .ok (.iconst 0, 1) := by decide +kernel
theorem dX11_lost_27 : decode cX11_lost 27 = .ok (.istore 4, 2) := by decide +kernel
theorem dX11_lost_29 : decode cX11_lost 29 = .ok (.iload 4, 2) := by decide +kernel
theorem dX11_lost_31 : decode cX11_lost 31 = .ok (.bipush 10, 2) := by decide +kernel
theorem dX11_lost_33 : decode cX11_lost 33 = .ok (.if_icmp .ge 61, 3) := by decide +kernel
theorem dX11_lost_36 : decode cX11_lost 36 = .ok (.iload 4, 2) := by decide +kernel
theorem dX11_lost_38 : decode cX11_lost 38 = .ok (.ifCond .eq 16, 3) := by decide +kernel
theorem dX11_lost_41 : decode cX11_lost 41 = .ok (.aload_n 0, 1) := by decide +kernel
theorem dX11_lost_42 : decode cX11_lost 42 = .ok (.getfield 16, 3) := by decide +kernel
theorem dX11_lost_45 : decode cX11_lost 45 = .ok (.bipush 10, 2) := by decide +kernel
theorem dX11_lost_47 : decode cX11_lost 47 = .ok (.iload_n 1, 1) := by decide +kernel
theorem dX11_lost_48 : decode cX11_lost 48 = .ok (.imul, 1) := by decide +kernel
theorem dX11_lost_49 : decode cX11_lost 49 = .ok (.iaload, 1) := by decide +kernel
theorem dX11_lost_50 : decode cX11_lost 50 = .ok (.iconst 3, 1) := by decide +kernel
theorem dX11_lost_51 : decode cX11_lost 51 = .ok (.if_icmp .eq 43, 3) := by decide +kernel
theorem dX11_lost_54 : decode cX11_lost 54 = .ok (.aload_n 0, 1) := by decide +kernel
theorem dX11_lost_55 : decode cX11_lost 55 = .ok (.getfield 16, 3) := by decide +kernel
theorem dX11_lost_58 : decode cX11_lost 58 = .ok (.bipush 10, 2) := by decide +kernel
theorem dX11_lost_60 : decode cX11_lost 60 = .ok (.iload_n 1, 1) := by decide +kernel
theorem dX11_lost_61 : decode cX11_lost 61 = .ok (.imul, 1) := by decide +kernel
theorem dX11_lost_62 : decode cX11_lost 62 = .ok (.bipush 8, 2) := by decide +kernel
theorem dX11_lost_64 : decode cX11_lost 64 = .ok (.iadd, 1) := by decide +kernel
theorem dX11_lost_65 : decode cX11_lost 65 = .ok (.iload_n 2, 1) := by decide +kernel
theorem dX11_lost_66 : decode cX11_lost 66 = .ok (.iload 4, 2) := by decide +kernel
theorem dX11_lost_68 : decode cX11_lost 68 = .ok (.isub, 1) := by decide +kernel
theorem dX11_lost_69 : decode cX11_lost 69 = .ok (.iastore, 1) := by decide +kernel
theorem dX11_lost_70 : decode cX11_lost 70 = .ok (.iload_n 3, 1) := by decide +kernel
theorem dX11_lost_71 : decode cX11_lost 71 = .ok (.aload_n 0, 1) := by decide +kernel
theorem dX11_lost_72 : decode cX11_lost 72 = .ok (.invokevirtual 216, 3) := by decide +kernel
theorem dX11_lost_75 : decode cX11_lost 75 = .ok (.ifCond .eq 10, 3) := by decide +kernel
theorem dX11_lost_78 : decode cX11_lost 78 = .ok (.iconst 1, 1) := by decide +kernel
theorem dX11_lost_79 : decode cX11_lost 79 = .ok (.iload 4, 2) := by decide +kernel
theorem dX11_lost_81 : decode cX11_lost 81 = .ok (.ishl, 1) := by decide +kernel
theorem dX11_lost_82 : decode cX11_lost 82 = .ok (.goto 4, 3) := by decide +kernel
theorem dX11_lost_85 : decode cX11_lost 85 = .ok (.iconst 0, 1) := by decide +kernel
theorem dX11_lost_86 : decode cX11_lost 86 = .ok (.ior, 1) := by decide +kernel
theorem dX11_lost_87 : decode cX11_lost 87 = .ok (.istore_n 3, 1) := by decide +kernel
theorem dX11_lost_88 : decode cX11_lost 88 = .ok (.iinc 4 1, 3) := by decide +kernel
theorem dX11_lost_91 : decode cX11_lost 91 = .ok (.goto (-62), 3) := by decide +kernel
theorem dX11_lost_94 : decode cX11_lost 94 = .ok (.aload_n 0, 1) := by decide +kernel
theorem dX11_lost_95 : decode cX11_lost 95 = .ok (.getfield 16, 3) := by decide +kernel
theorem dX11_lost_98 : decode cX11_lost 98 = .ok (.bipush 10, 2) := by decide +kernel
theorem dX11_lost_100 : decode cX11_lost 100 = .ok (.iload_n 1, 1) := by decide +kernel
theorem dX11_lost_101 : decode cX11_lost 101 = .ok (.imul, 1) := by decide +kernel
theorem dX11_lost_102 : decode cX11_lost 102 = .ok (.bipush 8, 2) := by decide +kernel
theorem dX11_lost_104 : decode cX11_lost 104 = .ok (.iadd, 1) := by decide +kernel
theorem dX11_lost_105 : decode cX11_lost 105 = .ok (.iload_n 2, 1) := by decide +kernel
theorem dX11_lost_106 : decode cX11_lost 106 = .ok (.iastore, 1) := by decide +kernel
theorem dX11_lost_107 : decode cX11_lost 107 = .ok (.iload_n 3, 1) := by decide +kernel
theorem dX11_lost_108 : decode cX11_lost 108 = .ok (.ireturn, 1) := by decide +kernel
theorem dX11_allSoonest_0 : decode cX11_allSoonest 0 = .ok (.iconst 0, 1) := by decide +kernel
theorem dX11_allSoonest_1 : decode cX11_allSoonest 1 = .ok (.istore_n 3, 1) := by decide +kernel
theorem dX11_allSoonest_2 : decode cX11_allSoonest 2 = .ok (.iconst 0, 1) := by decide +kernel
theorem dX11_allSoonest_3 : decode cX11_allSoonest 3 = .ok (.istore 4, 2) := by decide +kernel
theorem dX11_allSoonest_5 : decode cX11_allSoonest 5 = .ok (.iload 4, 2) := by decide +kernel
theorem dX11_allSoonest_7 : decode cX11_allSoonest 7 = .ok (.bipush 8, 2) := by decide +kernel
theorem dX11_allSoonest_9 : decode cX11_allSoonest 9 = .ok (.if_icmp .ge 62, 3) := by decide +kernel
theorem dX11_allSoonest_12 : decode cX11_allSoonest 12 = .ok (.aload_n 0, 1) := by decide +kernel
theorem dX11_allSoonest_13 : decode cX11_allSoonest 13 = .ok (.iload 4, 2) := by decide +kernel
theorem dX11_allSoonest_15 : decode cX11_allSoonest 15 = .ok (.iconst 0, 1) := by decide +kernel
theorem dX11_allSoonest_16 : decode cX11_allSoonest 16 = .ok (.iload_n 1, 1) := by decide +kernel
theorem dX11_allSoonest_17 : decode cX11_allSoonest 17 = .ok (.iload_n 2, 1) := by decide +kernel
theorem dX11_allSoonest_18 : decode cX11_allSoonest 18 = .ok (.invokevirtual 147, 3) := by decide +kernel
theorem dX11_allSoonest_21 : decode cX11_allSoonest 21 = .ok (.iconst 0, 1) := by decide +kernel
theorem dX11_allSoonest_22 : decode cX11_allSoonest 22 = .ok (.istore 5, 2) := by decide +kernel
theorem dX11_allSoonest_24 : decode cX11_allSoonest 24 = .ok (.iload 5, 2) := by decide +kernel
theorem dX11_allSoonest_26 : decode cX11_allSoonest 26 = .ok (.bipush 8, 2) := by decide +kernel
theorem dX11_allSoonest_28 : decode cX11_allSoonest 28 = .ok (.if_icmp .ge 37, 3) := by decide +kernel
theorem dX11_allSoonest_31 : decode cX11_allSoonest 31 = .ok (.iload_n 3, 1) := by decide +kernel
theorem dX11_allSoonest_32 : decode cX11_allSoonest 32 = .ok (.aload_n 0, 1) := by decide +kernel
theorem dX11_allSoonest_33 : decode cX11_allSoonest 33 = .ok (.getfield 19, 3) := by decide +kernel
theorem dX11_allSoonest_36 : decode cX11_allSoonest 36 = .ok (.iload 5, 2) := by decide +kernel
theorem dX11_allSoonest_38 : decode cX11_allSoonest 38 = .ok (.iaload, 1) := by decide +kernel
theorem dX11_allSoonest_39 : decode cX11_allSoonest 39 = .ok (.ldc 142, 2) := by decide +kernel
theorem dX11_allSoonest_41 : decode cX11_allSoonest 41 = .ok (.if_icmp .ne 9, 3) := by decide +kernel
theorem dX11_allSoonest_44 : decode cX11_allSoonest 44 = .ok (.sipush 1000, 3) := by decide +kernel
theorem dX11_allSoonest_47 : decode cX11_allSoonest 47 = .ok (.goto 10, 3) := by decide +kernel
theorem dX11_allSoonest_50 : decode cX11_allSoonest 50 = .ok (.aload_n 0, 1) := by decide +kernel
theorem dX11_allSoonest_51 : decode cX11_allSoonest 51 = .ok (.getfield 19, 3) := by decide +kernel
theorem dX11_allSoonest_54 : decode cX11_allSoonest 54 = .ok (.iload 5, 2) := by decide +kernel
theorem dX11_allSoonest_56 : decode cX11_allSoonest 56 = .ok (.iaload, 1) := by decide +kernel
theorem dX11_allSoonest_57 : decode cX11_allSoonest 57 = .ok (.iadd, 1) := by decide +kernel
theorem dX11_allSoonest_58 : decode cX11_allSoonest 58 = .ok (.istore_n 3, 1) := by decide +kernel
theorem dX11_allSoonest_59 : decode cX11_allSoonest 59 = .ok (.iinc 5 1, 3) := by decide +kernel
theorem dX11_allSoonest_62 : decode cX11_allSoonest 62 = .ok (.goto (-38), 3) := by decide +kernel
theorem dX11_allSoonest_65 : decode cX11_allSoonest 65 = .ok (.iinc 4 1, 3) := by decide +kernel
theorem dX11_allSoonest_68 : decode cX11_allSoonest 68 = .ok (.goto (-63), 3) := by decide +kernel
theorem dX11_allSoonest_71 : decode cX11_allSoonest 71 = .ok (.iload_n 3, 1) := by decide +kernel
theorem dX11_allSoonest_72 : decode cX11_allSoonest 72 = .ok (.ireturn, 1) := by decide +kernel
theorem dX11_worth_0 : decode cX11_worth 0 = .ok (.aload_n 0, 1) := by decide +kernel
theorem dX11_worth_1 : decode cX11_worth 1 = .ok (.iload_n 1, 1) := by decide +kernel
theorem dX11_worth_2 : decode cX11_worth 2 = .ok (.invokevirtual 107, 3) := by decide +kernel
theorem dX11_worth_5 : decode cX11_worth 5 = .ok (.ifCond .ne 6, 3) := by decide +kernel
theorem dX11_worth_8 : decode cX11_worth 8 = .ok (.bipush (-101), 2) := by decide +kernel
theorem dX11_worth_10 : decode cX11_worth 10 = .ok (.ireturn, 1) := by decide +kernel
theorem dX11_worth_11 : decode cX11_worth 11 = .ok (.iload_n 2, 1) := by decide +kernel
theorem dX11_worth_12 : decode cX11_worth 12 = .ok (.iload_n 3, 1) := by decide +kernel
theorem dX11_worth_13 : decode cX11_worth 13 = .ok (.invokestatic 159, 3) := by decide +kernel
theorem dX11_worth_16 : decode cX11_worth 16 = .ok (.ifCond .ne 6, 3) := by decide +kernel
theorem dX11_worth_19 : decode cX11_worth 19 = .ok (.bipush (-102), 2) := by decide +kernel
theorem dX11_worth_21 : decode cX11_worth 21 = .ok (.ireturn, 1) := by decide +kernel
theorem dX11_worth_22 : decode cX11_worth 22 = .ok (.aload_n 0, 1) := by decide +kernel
theorem dX11_worth_23 : decode cX11_worth 23 = .ok (.iload_n 2, 1) := by decide +kernel
theorem dX11_worth_24 : decode cX11_worth 24 = .ok (.iload_n 3, 1) := by decide +kernel
theorem dX11_worth_25 : decode cX11_worth 25 = .ok (.invokevirtual 220, 3) := by decide +kernel
theorem dX11_worth_28 : decode cX11_worth 28 = .ok (.istore 4, 2) := by decide +kernel
theorem dX11_worth_30 : decode cX11_worth 30 = .ok (.aload_n 0, 1) := by decide +kernel
theorem dX11_worth_31 : decode cX11_worth 31 = .ok (.iload_n 1, 1) := by decide +kernel
theorem dX11_worth_32 : decode cX11_worth 32 = .ok (.putfield 56, 3) := by decide +kernel
theorem dX11_worth_35 : decode cX11_worth 35 = .ok (.aload_n 0, 1) := by decide +kernel
theorem dX11_worth_36 : decode cX11_worth 36 = .ok (.iload_n 2, 1) := by decide +kernel
theorem dX11_worth_37 : decode cX11_worth 37 = .ok (.iload_n 3, 1) := by decide +kernel
theorem dX11_worth_38 : decode cX11_worth 38 = .ok (.invokevirtual 220, 3) := by decide +kernel
theorem dX11_worth_41 : decode cX11_worth 41 = .ok (.istore 5, 2) := by decide +kernel
theorem dX11_worth_43 : decode cX11_worth 43 = .ok (.aload_n 0, 1) := by decide +kernel
theorem dX11_worth_44 : decode cX11_worth 44 = .ok (.iconst (-1), 1) := by decide +kernel
theorem dX11_worth_45 : decode cX11_worth 45 = .ok (.putfield 56, 3) := by decide +kernel
theorem dX11_worth_48 : decode cX11_worth 48 = .ok (.iload 5, 2) := by decide +kernel
theorem dX11_worth_50 : decode cX11_worth 50 = .ok (.iload 4, 2) := by decide +kernel
theorem dX11_worth_52 : decode cX11_worth 52 = .ok (.isub, 1) := by decide +kernel
theorem dX11_worth_53 : decode cX11_worth 53 = .ok (.ireturn, 1) := by decide +kernel
theorem dX11_image_0 : decode cX11_image 0 = .ok (.iconst 0, 1) := by decide +kernel
theorem dX11_image_1 : decode cX11_image 1 = .ok (.istore_n 1, 1) := by decide +kernel
theorem dX11_image_2 : decode cX11_image 2 = .ok (.iload_n 1, 1) := by decide +kernel
theorem dX11_image_3 : decode cX11_image 3 = .ok (.aload_n 0, 1) := by decide +kernel
theorem dX11_image_4 : decode cX11_image 4 = .ok (.getfield 104, 3) := by decide +kernel
theorem dX11_image_7 : decode cX11_image 7 = .ok (.if_icmp .ge 27, 3) := by decide +kernel
theorem dX11_image_10 : decode cX11_image 10 = .ok (.aload_n 0, 1) := by decide +kernel
theorem dX11_image_11 : decode cX11_image 11 = .ok (.getfield 46, 3) := by decide +kernel
theorem dX11_image_14 : decode cX11_image 14 = .ok (.iload_n 1, 1) := by decide +kernel
theorem dX11_image_15 : decode cX11_image 15 = .ok (.aload_n 0, 1) := by decide +kernel
theorem dX11_image_16 : decode cX11_image 16 = .ok (.getfield 16, 3) := by decide +kernel
theorem dX11_image_19 : decode cX11_image 19 = .ok (.bipush 10, 2) := by decide +kernel
theorem dX11_image_21 : decode cX11_image 21 = .ok (.iload_n 1, 1) := by decide +kernel
theorem dX11_image_22 : decode cX11_image 22 = .ok (.imul, 1) := by decide +kernel
theorem dX11_image_23 : decode cX11_image 23 = .ok (.bipush 8, 2) := by decide +kernel
theorem dX11_image_25 : decode cX11_image 25 = .ok (.iadd, 1) := by decide +kernel
theorem dX11_image_26 : decode cX11_image 26 = .ok (.iaload, 1) := by decide +kernel
theorem dX11_image_27 : decode cX11_image 27 = .ok (.iastore, 1) := by decide +kernel
theorem dX11_image_28 : decode cX11_image 28 = .ok (.iinc 1 1, 3) := by decide +kernel
theorem dX11_image_31 : decode cX11_image 31 = .ok (.goto (-29), 3) := by decide +kernel
theorem dX11_image_34 : decode cX11_image 34 = .ok (.iconst 0, 1) := by decide +kernel
theorem dX11_image_35 : decode cX11_image 35 = .ok (.istore_n 1, 1) := by decide +kernel
theorem dX11_image_36 : decode cX11_image 36 = .ok (.iload_n 1, 1) := by decide +kernel
theorem dX11_image_37 : decode cX11_image 37 = .ok (.bipush 24, 2) := by decide +kernel
theorem dX11_image_39 : decode cX11_image 39 = .ok (.if_icmp .ge 21, 3) := by decide +kernel
theorem dX11_image_42 : decode cX11_image 42 = .ok (.aload_n 0, 1) := by decide +kernel
theorem dX11_image_43 : decode cX11_image 43 = .ok (.getfield 49, 3) := by decide +kernel
theorem dX11_image_46 : decode cX11_image 46 = .ok (.iload_n 1, 1) := by decide +kernel
theorem dX11_image_47 : decode cX11_image 47 = .ok (.aload_n 0, 1) := by decide +kernel
theorem dX11_image_48 : decode cX11_image 48 = .ok (.getfield 43, 3) := by decide +kernel
theorem dX11_image_51 : decode cX11_image 51 = .ok (.iload_n 1, 1) := by decide +kernel
theorem dX11_image_52 : decode cX11_image 52 = .ok (.iaload, 1) := by decide +kernel
theorem dX11_image_53 : decode cX11_image 53 = .ok (.iastore, 1) := by decide +kernel
theorem dX11_image_54 : decode cX11_image 54 = .ok (.iinc 1 1, 3) := by decide +kernel
theorem dX11_image_57 : decode cX11_image 57 = .ok (.goto (-21), 3) := by decide +kernel
theorem dX11_image_60 : decode cX11_image 60 = .ok (.aload_n 0, 1) := by decide +kernel
theorem dX11_image_61 : decode cX11_image 61 = .ok (.aload_n 0, 1) := by decide +kernel
theorem dX11_image_62 : decode cX11_image 62 = .ok (.getfield 104, 3) := by decide +kernel
theorem dX11_image_65 : decode cX11_image 65 = .ok (.putfield 52, 3) := by decide +kernel
theorem dX11_image_68 : decode cX11_image 68 = .ok (.aload_n 0, 1) := by decide +kernel
theorem dX11_image_69 : decode cX11_image 69 = .ok (.aload_n 0, 1) := by decide +kernel
theorem dX11_image_70 : decode cX11_image 70 = .ok (.getfield 112, 3) := by decide +kernel
theorem dX11_image_73 : decode cX11_image 73 = .ok (.putfield 223, 3) := by decide +kernel
theorem dX11_image_76 : decode cX11_image 76 = .ok (.aload_n 0, 1) := by decide +kernel
theorem dX11_image_77 : decode cX11_image 77 = .ok (.aload_n 0, 1) := by decide +kernel
theorem dX11_image_78 : decode cX11_image 78 = .ok (.getfield 213, 3) := by decide +kernel
theorem dX11_image_81 : decode cX11_image 81 = .ok (.putfield 226, 3) := by decide +kernel
theorem dX11_image_84 : decode cX11_image 84 = .ok (.aload_n 0, 1) := by decide +kernel
theorem dX11_image_85 : decode cX11_image 85 = .ok (.getfield 104, 3) := by decide +kernel
theorem dX11_image_88 : decode cX11_image 88 = .ok (.ireturn, 1) := by decide +kernel
theorem dX11_restore_0 : decode cX11_restore 0 = .ok (.aload_n 0, 1) := by decide +kernel
theorem dX11_restore_1 : decode cX11_restore 1 = .ok (.getfield 52, 3) := by decide +kernel
theorem dX11_restore_4 : decode cX11_restore 4 = .ok (.iconst (-1), 1) := by decide +kernel
theorem dX11_restore_5 : decode cX11_restore 5 = .ok (.if_icmp .ne 6, 3) := by decide +kernel
theorem dX11_restore_8 : decode cX11_restore 8 = .ok (.bipush (-103), 2) := by decide +kernel
theorem dX11_restore_10 : decode cX11_restore 10 = .ok (.ireturn, 1) := by decide +kernel
theorem dX11_restore_11 : decode cX11_restore 11 = .ok (.aload_n 0, 1) := by decide +kernel
theorem dX11_restore_12 : decode cX11_restore 12 = .ok (.aload_n 0, 1) := by decide +kernel
theorem dX11_restore_13 : decode cX11_restore 13 = .ok (.getfield 52, 3) := by decide +kernel
theorem dX11_restore_16 : decode cX11_restore 16 = .ok (.putfield 104, 3) := by decide +kernel
theorem dX11_restore_19 : decode cX11_restore 19 = .ok (.iconst 0, 1) := by decide +kernel
theorem dX11_restore_20 : decode cX11_restore 20 = .ok (.istore_n 1, 1) := by decide +kernel
theorem dX11_restore_21 : decode cX11_restore 21 = .ok (.iload_n 1, 1) := by decide +kernel
theorem dX11_restore_22 : decode cX11_restore 22 = .ok (.aload_n 0, 1) := by decide +kernel
theorem dX11_restore_23 : decode cX11_restore 23 = .ok (.getfield 104, 3) := by decide +kernel
theorem dX11_restore_26 : decode cX11_restore 26 = .ok (.if_icmp .ge 27, 3) := by decide +kernel
theorem dX11_restore_29 : decode cX11_restore 29 = .ok (.aload_n 0, 1) := by decide +kernel
theorem dX11_restore_30 : decode cX11_restore 30 = .ok (.getfield 16, 3) := by decide +kernel
theorem dX11_restore_33 : decode cX11_restore 33 = .ok (.bipush 10, 2) := by decide +kernel
theorem dX11_restore_35 : decode cX11_restore 35 = .ok (.iload_n 1, 1) := by decide +kernel
theorem dX11_restore_36 : decode cX11_restore 36 = .ok (.imul, 1) := by decide +kernel
theorem dX11_restore_37 : decode cX11_restore 37 = .ok (.bipush 8, 2) := by decide +kernel
theorem dX11_restore_39 : decode cX11_restore 39 = .ok (.iadd, 1) := by decide +kernel
theorem dX11_restore_40 : decode cX11_restore 40 = .ok (.aload_n 0, 1) := by decide +kernel
theorem dX11_restore_41 : decode cX11_restore 41 = .ok (.getfield 46, 3) := by decide +kernel
theorem dX11_restore_44 : decode cX11_restore 44 = .ok (.iload_n 1, 1) := by decide +kernel
theorem dX11_restore_45 : decode cX11_restore 45 = .ok (.iaload, 1) := by decide +kernel
theorem dX11_restore_46 : decode cX11_restore 46 = .ok (.iastore, 1) := by decide +kernel
theorem dX11_restore_47 : decode cX11_restore 47 = .ok (.iinc 1 1, 3) := by decide +kernel
theorem dX11_restore_50 : decode cX11_restore 50 = .ok (.goto (-29), 3) := by decide +kernel
theorem dX11_restore_53 : decode cX11_restore 53 = .ok (.iconst 0, 1) := by decide +kernel
theorem dX11_restore_54 : decode cX11_restore 54 = .ok (.istore_n 1, 1) := by decide +kernel
theorem dX11_restore_55 : decode cX11_restore 55 = .ok (.iload_n 1, 1) := by decide +kernel
theorem dX11_restore_56 : decode cX11_restore 56 = .ok (.bipush 24, 2) := by decide +kernel
theorem dX11_restore_58 : decode cX11_restore 58 = .ok (.if_icmp .ge 21, 3) := by decide +kernel
theorem dX11_restore_61 : decode cX11_restore 61 = .ok (.aload_n 0, 1) := by decide +kernel
theorem dX11_restore_62 : decode cX11_restore 62 = .ok (.getfield 43, 3) := by decide +kernel
theorem dX11_restore_65 : decode cX11_restore 65 = .ok (.iload_n 1, 1) := by decide +kernel
theorem dX11_restore_66 : decode cX11_restore 66 = .ok (.aload_n 0, 1) := by decide +kernel
theorem dX11_restore_67 : decode cX11_restore 67 = .ok (.getfield 49, 3) := by decide +kernel
theorem dX11_restore_70 : decode cX11_restore 70 = .ok (.iload_n 1, 1) := by decide +kernel
theorem dX11_restore_71 : decode cX11_restore 71 = .ok (.iaload, 1) := by decide +kernel
theorem dX11_restore_72 : decode cX11_restore 72 = .ok (.iastore, 1) := by decide +kernel
theorem dX11_restore_73 : decode cX11_restore 73 = .ok (.iinc 1 1, 3) := by decide +kernel
theorem dX11_restore_76 : decode cX11_restore 76 = .ok (.goto (-21), 3) := by decide +kernel
theorem dX11_restore_79 : decode cX11_restore 79 = .ok (.aload_n 0, 1) := by decide +kernel
theorem dX11_restore_80 : decode cX11_restore 80 = .ok (.aload_n 0, 1) := by decide +kernel
theorem dX11_restore_81 : decode cX11_restore 81 = .ok (.getfield 223, 3) := by decide +kernel
theorem dX11_restore_84 : decode cX11_restore 84 = .ok (.putfield 112, 3) := by decide +kernel
theorem dX11_restore_87 : decode cX11_restore 87 = .ok (.aload_n 0, 1) := by decide +kernel
theorem dX11_restore_88 : decode cX11_restore 88 = .ok (.aload_n 0, 1) := by decide +kernel
theorem dX11_restore_89 : decode cX11_restore 89 = .ok (.getfield 226, 3) := by decide +kernel
theorem dX11_restore_92 : decode cX11_restore 92 = .ok (.putfield 213, 3) := by decide +kernel
theorem dX11_restore_95 : decode cX11_restore 95 = .ok (.aload_n 0, 1) := by decide +kernel
theorem dX11_restore_96 : decode cX11_restore 96 = .ok (.getfield 104, 3) := by decide +kernel
theorem dX11_restore_99 : decode cX11_restore 99 = .ok (.ireturn, 1) := by decide +kernel
theorem dX11_turning_0 : decode cX11_turning 0 = .ok (.iconst 0, 1) := by decide +kernel
theorem dX11_turning_1 : decode cX11_turning 1 = .ok (.istore_n 1, 1) := by decide +kernel
theorem dX11_turning_2 : decode cX11_turning 2 = .ok (.iconst 0, 1) := by decide +kernel
theorem dX11_turning_3 : decode cX11_turning 3 = .ok (.istore_n 2, 1) := by decide +kernel
theorem dX11_turning_4 : decode cX11_turning 4 = .ok (.iload_n 2, 1) := by decide +kernel
theorem dX11_turning_5 : decode cX11_turning 5 = .ok (.aload_n 0, 1) := by decide +kernel
theorem dX11_turning_6 : decode cX11_turning 6 = .ok (.getfield 104, 3) := by decide +kernel
theorem dX11_turning_9 : decode cX11_turning 9 = .ok (.if_icmp .ge 30, 3) := by decide +kernel
theorem dX11_turning_12 : decode cX11_turning 12 = .ok (.iload_n 1, 1) := by decide +kernel
theorem dX11_turning_13 : decode cX11_turning 13 = .ok (.aload_n 0, 1) := by decide +kernel
theorem dX11_turning_14 : decode cX11_turning 14 = .ok (.getfield 16, 3) := by decide +kernel
theorem dX11_turning_17 : decode cX11_turning 17 = .ok (.bipush 10, 2) := by decide +kernel
theorem dX11_turning_19 : decode cX11_turning 19 = .ok (.iload_n 2, 1) := by decide +kernel
theorem dX11_turning_20 : decode cX11_turning 20 = .ok (.imul, 1) := by decide +kernel
theorem dX11_turning_21 : decode cX11_turning 21 = .ok (.iaload, 1) := by decide +kernel
theorem dX11_turning_22 : decode cX11_turning 22 = .ok (.iconst 3, 1) := by decide +kernel
theorem dX11_turning_23 : decode cX11_turning 23 = .ok (.if_icmp .ne 7, 3) := by decide +kernel
theorem dX11_turning_26 : decode cX11_turning 26 = .ok (.iconst 0, 1) := by decide +kernel
theorem dX11_turning_27 : decode cX11_turning 27 = .ok (.goto 4, 3) := by decide +kernel
theorem dX11_turning_30 : decode cX11_turning 30 = .ok (.iconst 1, 1) := by decide +kernel
theorem dX11_turning_31 : decode cX11_turning 31 = .ok (.iadd, 1) := by decide +kernel
theorem dX11_turning_32 : decode cX11_turning 32 = .ok (.istore_n 1, 1) := by decide +kernel
theorem dX11_turning_33 : decode cX11_turning 33 = .ok (.iinc 2 1, 3) := by decide +kernel
theorem dX11_turning_36 : decode cX11_turning 36 = .ok (.goto (-32), 3) := by decide +kernel
theorem dX11_turning_39 : decode cX11_turning 39 = .ok (.iload_n 1, 1) := by decide +kernel
theorem dX11_turning_40 : decode cX11_turning 40 = .ok (.ireturn, 1) := by decide +kernel
theorem dX11_countOf_0 : decode cX11_countOf 0 = .ok (.iload_n 1, 1) := by decide +kernel
theorem dX11_countOf_1 : decode cX11_countOf 1 = .ok (.tableswitch 60 0 4 #[35, 40, 45, 50, 55], 35) := by decide +kernel
theorem dX11_countOf_36 : decode cX11_countOf 36 = .ok (.aload_n 0, 1) := by decide +kernel
theorem dX11_countOf_37 : decode cX11_countOf 37 = .ok (.getfield 104, 3) := by decide +kernel
theorem dX11_countOf_40 : decode cX11_countOf 40 = .ok (.ireturn, 1) := by decide +kernel
theorem dX11_countOf_41 : decode cX11_countOf 41 = .ok (.aload_n 0, 1) := by decide +kernel
theorem dX11_countOf_42 : decode cX11_countOf 42 = .ok (.getfield 112, 3) := by decide +kernel
theorem dX11_countOf_45 : decode cX11_countOf 45 = .ok (.ireturn, 1) := by decide +kernel
theorem dX11_countOf_46 : decode cX11_countOf 46 = .ok (.aload_n 0, 1) := by decide +kernel
theorem dX11_countOf_47 : decode cX11_countOf 47 = .ok (.getfield 213, 3) := by decide +kernel
theorem dX11_countOf_50 : decode cX11_countOf 50 = .ok (.ireturn, 1) := by decide +kernel
theorem dX11_countOf_51 : decode cX11_countOf 51 = .ok (.aload_n 0, 1) := by decide +kernel
theorem dX11_countOf_52 : decode cX11_countOf 52 = .ok (.getfield 64, 3) := by decide +kernel
theorem dX11_countOf_55 : decode cX11_countOf 55 = .ok (.ireturn, 1) := by decide +kernel
theorem dX11_countOf_56 : decode cX11_countOf 56 = .ok (.aload_n 0, 1) := by decide +kernel
theorem dX11_countOf_57 : decode cX11_countOf 57 = .ok (.invokevirtual 229, 3) := by decide +kernel
theorem dX11_countOf_60 : decode cX11_countOf 60 = .ok (.ireturn, 1) := by decide +kernel
theorem dX11_countOf_61 : decode cX11_countOf 61 = .ok (.bipush (-102), 2) := by decide +kernel
theorem dX11_countOf_63 : decode cX11_countOf 63 = .ok (.ireturn, 1) := by decide +kernel
theorem dX11_count_0 : decode cX11_count 0 = .ok (.aload_n 0, 1) := by decide +kernel
theorem dX11_count_1 : decode cX11_count 1 = .ok (.iload_n 1, 1) := by decide +kernel
theorem dX11_count_2 : decode cX11_count 2 = .ok (.invokevirtual 232, 3) := by decide +kernel
theorem dX11_count_5 : decode cX11_count 5 = .ok (.ireturn, 1) := by decide +kernel
theorem dX11_say_0 : decode cX11_say 0 = .ok (.aload_n 0, 1) := by decide +kernel
theorem dX11_say_1 : decode cX11_say 1 = .ok (.ldc2_w 235, 3) := by decide +kernel
theorem dX11_say_4 : decode cX11_say 4 = .ok (.aload_n 0, 1) := by decide +kernel
theorem dX11_say_5 : decode cX11_say 5 = .ok (.getfield 237, 3) := by decide +kernel
theorem dX11_say_8 : decode cX11_say 8 = .ok (.lmul, 1) := by decide +kernel
theorem dX11_say_9 : decode cX11_say 9 = .ok (.lload_n 1, 1) := by decide +kernel
theorem dX11_say_10 : decode cX11_say 10 = .ok (.ladd, 1) := by decide +kernel
theorem dX11_say_11 : decode cX11_say 11 = .ok (.putfield 237, 3) := by decide +kernel
theorem dX11_say_14 : decode cX11_say 14 = .ok (.return_, 1) := by decide +kernel
theorem dX11_sayBridge_0 : decode cX11_sayBridge 0 = .ok (.iconst 0, 1) := by decide +kernel
theorem dX11_sayBridge_1 : decode cX11_sayBridge 1 = .ok (.istore_n 2, 1) := by decide +kernel
theorem dX11_sayBridge_2 : decode cX11_sayBridge 2 = .ok (.iload_n 2, 1) := by decide +kernel
theorem dX11_sayBridge_3 : decode cX11_sayBridge 3 = .ok (.bipush 13, 2) := by decide +kernel
theorem dX11_sayBridge_5 : decode cX11_sayBridge 5 = .ok (.if_icmp .ge 32, 3) := by decide +kernel
theorem dX11_sayBridge_8 : decode cX11_sayBridge 8 = .ok (.iload_n 2, 1) := by decide +kernel
theorem dX11_sayBridge_9 : decode cX11_sayBridge 9 = .ok (.bipush 8, 2) := by decide +kernel
theorem dX11_sayBridge_11 : decode cX11_sayBridge 11 = .ok (.if_icmp .lt 9, 3) := by decide +kernel
theorem dX11_sayBridge_14 : decode cX11_sayBridge 14 = .ok (.iload_n 2, 1) := by decide +kernel
theorem dX11_sayBridge_15 : decode cX11_sayBridge 15 = .ok (.bipush 9, 2) := by decide +kernel
theorem dX11_sayBridge_17 : decode cX11_sayBridge 17 = .ok (.if_icmp .le 14, 3) := by decide +kernel
theorem dX11_sayBridge_20 : decode cX11_sayBridge 20 = .ok (.aload_n 0, 1) := by decide +kernel
theorem dX11_sayBridge_21 : decode cX11_sayBridge 21 = .ok (.aload_n 0, 1) := by decide +kernel
theorem dX11_sayBridge_22 : decode cX11_sayBridge 22 = .ok (.iload_n 1, 1) := by decide +kernel
theorem dX11_sayBridge_23 : decode cX11_sayBridge 23 = .ok (.iload_n 2, 1) := by decide +kernel
theorem dX11_sayBridge_24 : decode cX11_sayBridge 24 = .ok (.invokevirtual 124, 3) := by decide +kernel
theorem dX11_sayBridge_27 : decode cX11_sayBridge 27 = .ok (.i2l, 1) := by decide +kernel
theorem dX11_sayBridge_28 : decode cX11_sayBridge 28 = .ok (.invokevirtual 241, 3) := by decide +kernel
theorem dX11_sayBridge_31 : decode cX11_sayBridge 31 = .ok (.iinc 2 1, 3) := by decide +kernel
theorem dX11_sayBridge_34 : decode cX11_sayBridge 34 = .ok (.goto (-32), 3) := by decide +kernel
theorem dX11_sayBridge_37 : decode cX11_sayBridge 37 = .ok (.iconst 0, 1) := by decide +kernel
theorem dX11_sayBridge_38 : decode cX11_sayBridge 38 = .ok (.istore_n 2, 1) := by decide +kernel
theorem dX11_sayBridge_39 : decode cX11_sayBridge 39 = .ok (.iload_n 2, 1) := by decide +kernel
theorem dX11_sayBridge_40 : decode cX11_sayBridge 40 = .ok (.bipush 8, 2) := by decide +kernel
theorem dX11_sayBridge_42 : decode cX11_sayBridge 42 = .ok (.if_icmp .ge 31, 3) := by decide +kernel
theorem dX11_sayBridge_45 : decode cX11_sayBridge 45 = .ok (.aload_n 0, 1) := by decide +kernel
theorem dX11_sayBridge_46 : decode cX11_sayBridge 46 = .ok (.aload_n 0, 1) := by decide +kernel
theorem dX11_sayBridge_47 : decode cX11_sayBridge 47 = .ok (.iload_n 1, 1) := by decide +kernel
theorem dX11_sayBridge_48 : decode cX11_sayBridge 48 = .ok (.iload_n 2, 1) := by decide +kernel
theorem dX11_sayBridge_49 : decode cX11_sayBridge 49 = .ok (.invokevirtual 134, 3) := by decide +kernel
theorem dX11_sayBridge_52 : decode cX11_sayBridge 52 = .ok (.i2l, 1) := by decide +kernel
theorem dX11_sayBridge_53 : decode cX11_sayBridge 53 = .ok (.invokevirtual 241, 3) := by decide +kernel
theorem dX11_sayBridge_56 : decode cX11_sayBridge 56 = .ok (.aload_n 0, 1) := by decide +kernel
theorem dX11_sayBridge_57 : decode cX11_sayBridge 57 = .ok (.aload_n 0, 1) := by decide +kernel
theorem dX11_sayBridge_58 : decode cX11_sayBridge 58 = .ok (.iload_n 1, 1) := by decide +kernel
theorem dX11_sayBridge_59 : decode cX11_sayBridge 59 = .ok (.iload_n 2, 1) := by decide +kernel
theorem dX11_sayBridge_60 : decode cX11_sayBridge 60 = .ok (.invokevirtual 139, 3) := by decide +kernel
theorem dX11_sayBridge_63 : decode cX11_sayBridge 63 = .ok (.i2l, 1) := by decide +kernel
theorem dX11_sayBridge_64 : decode cX11_sayBridge 64 = .ok (.invokevirtual 241, 3) := by decide +kernel
theorem dX11_sayBridge_67 : decode cX11_sayBridge 67 = .ok (.iinc 2 7, 3) := by decide +kernel
theorem dX11_sayBridge_70 : decode cX11_sayBridge 70 = .ok (.goto (-31), 3) := by decide +kernel
theorem dX11_sayBridge_73 : decode cX11_sayBridge 73 = .ok (.return_, 1) := by decide +kernel
theorem dX11_digest_0 : decode cX11_digest 0 = .ok (.aload_n 0, 1) := by decide +kernel
theorem dX11_digest_1 : decode cX11_digest 1 = .ok (.ldc2_w 245, 3) := by decide +kernel
theorem dX11_digest_4 : decode cX11_digest 4 = .ok (.putfield 237, 3) := by decide +kernel
theorem dX11_digest_7 : decode cX11_digest 7 = .ok (.iconst 0, 1) := by decide +kernel
theorem dX11_digest_8 : decode cX11_digest 8 = .ok (.istore_n 1, 1) := by decide +kernel
theorem dX11_digest_9 : decode cX11_digest 9 = .ok (.iload_n 1, 1) := by decide +kernel
theorem dX11_digest_10 : decode cX11_digest 10 = .ok (.aload_n 0, 1) := by decide +kernel
theorem dX11_digest_11 : decode cX11_digest 11 = .ok (.getfield 104, 3) := by decide +kernel
theorem dX11_digest_14 : decode cX11_digest 14 = .ok (.if_icmp .ge 14, 3) := by decide +kernel
theorem dX11_digest_17 : decode cX11_digest 17 = .ok (.aload_n 0, 1) := by decide +kernel
theorem dX11_digest_18 : decode cX11_digest 18 = .ok (.iload_n 1, 1) := by decide +kernel
theorem dX11_digest_19 : decode cX11_digest 19 = .ok (.invokevirtual 247, 3) := by decide +kernel
theorem dX11_digest_22 : decode cX11_digest 22 = .ok (.iinc 1 1, 3) := by decide +kernel
theorem dX11_digest_25 : decode cX11_digest 25 = .ok (.goto (-16), 3) := by decide +kernel
theorem dX11_digest_28 : decode cX11_digest 28 = .ok (.aload_n 0, 1) := by decide +kernel
theorem dX11_digest_29 : decode cX11_digest 29 = .ok (.aload_n 0, 1) := by decide +kernel
theorem dX11_digest_30 : decode cX11_digest 30 = .ok (.invokevirtual 171, 3) := by decide +kernel
theorem dX11_digest_33 : decode cX11_digest 33 = .ok (.invokevirtual 241, 3) := by decide +kernel
theorem dX11_digest_36 : decode cX11_digest 36 = .ok (.iconst 0, 1) := by decide +kernel
theorem dX11_digest_37 : decode cX11_digest 37 = .ok (.istore_n 1, 1) := by decide +kernel
theorem dX11_digest_38 : decode cX11_digest 38 = .ok (.iload_n 1, 1) := by decide +kernel
theorem dX11_digest_39 : decode cX11_digest 39 = .ok (.bipush 8, 2) := by decide +kernel
theorem dX11_digest_41 : decode cX11_digest 41 = .ok (.if_icmp .ge 36, 3) := by decide +kernel
theorem dX11_digest_44 : decode cX11_digest 44 = .ok (.aload_n 0, 1) := by decide +kernel
theorem dX11_digest_45 : decode cX11_digest 45 = .ok (.aload_n 0, 1) := by decide +kernel
theorem dX11_digest_46 : decode cX11_digest 46 = .ok (.iconst 0, 1) := by decide +kernel
theorem dX11_digest_47 : decode cX11_digest 47 = .ok (.iload_n 1, 1) := by decide +kernel
theorem dX11_digest_48 : decode cX11_digest 48 = .ok (.iconst 0, 1) := by decide +kernel
theorem dX11_digest_49 : decode cX11_digest 49 = .ok (.iconst 1, 1) := by decide +kernel
theorem dX11_digest_50 : decode cX11_digest 50 = .ok (.iconst 1, 1) := by decide +kernel
theorem dX11_digest_51 : decode cX11_digest 51 = .ok (.invokevirtual 163, 3) := by decide +kernel
theorem dX11_digest_54 : decode cX11_digest 54 = .ok (.i2l, 1) := by decide +kernel
theorem dX11_digest_55 : decode cX11_digest 55 = .ok (.invokevirtual 241, 3) := by decide +kernel
theorem dX11_digest_58 : decode cX11_digest 58 = .ok (.aload_n 0, 1) := by decide +kernel
theorem dX11_digest_59 : decode cX11_digest 59 = .ok (.aload_n 0, 1) := by decide +kernel
theorem dX11_digest_60 : decode cX11_digest 60 = .ok (.iload_n 1, 1) := by decide +kernel
theorem dX11_digest_61 : decode cX11_digest 61 = .ok (.iconst 0, 1) := by decide +kernel
theorem dX11_digest_62 : decode cX11_digest 62 = .ok (.bipush 60, 2) := by decide +kernel
theorem dX11_digest_64 : decode cX11_digest 64 = .ok (.invokevirtual 177, 3) := by decide +kernel
theorem dX11_digest_67 : decode cX11_digest 67 = .ok (.i2l, 1) := by decide +kernel
theorem dX11_digest_68 : decode cX11_digest 68 = .ok (.invokevirtual 241, 3) := by decide +kernel
theorem dX11_digest_71 : decode cX11_digest 71 = .ok (.iinc 1 1, 3) := by decide +kernel
theorem dX11_digest_74 : decode cX11_digest 74 = .ok (.goto (-36), 3) := by decide +kernel
theorem dX11_digest_77 : decode cX11_digest 77 = .ok (.iconst 0, 1) := by decide +kernel
theorem dX11_digest_78 : decode cX11_digest 78 = .ok (.istore_n 1, 1) := by decide +kernel
theorem dX11_digest_79 : decode cX11_digest 79 = .ok (.iload_n 1, 1) := by decide +kernel
theorem dX11_digest_80 : decode cX11_digest 80 = .ok (.iconst 4, 1) := by decide +kernel
theorem dX11_digest_81 : decode cX11_digest 81 = .ok (.aload_n 0, 1) := by decide +kernel
theorem dX11_digest_82 : decode cX11_digest 82 = .ok (.getfield 213, 3) := by decide +kernel
theorem dX11_digest_85 : decode cX11_digest 85 = .ok (.imul, 1) := by decide +kernel
theorem dX11_digest_86 : decode cX11_digest 86 = .ok (.if_icmp .ge 20, 3) := by decide +kernel
theorem dX11_digest_89 : decode cX11_digest 89 = .ok (.aload_n 0, 1) := by decide +kernel
theorem dX11_digest_90 : decode cX11_digest 90 = .ok (.aload_n 0, 1) := by decide +kernel
theorem dX11_digest_91 : decode cX11_digest 91 = .ok (.getfield 43, 3) := by decide +kernel
theorem dX11_digest_94 : decode cX11_digest 94 = .ok (.iload_n 1, 1) := by decide +kernel
theorem dX11_digest_95 : decode cX11_digest 95 = .ok (.iaload, 1) := by decide +kernel
theorem dX11_digest_96 : decode cX11_digest 96 = .ok (.i2l, 1) := by decide +kernel
theorem dX11_digest_97 : decode cX11_digest 97 = .ok (.invokevirtual 241, 3) := by decide +kernel
theorem dX11_digest_100 : decode cX11_digest 100 = .ok (.iinc 1 1, 3) := by decide +kernel
theorem dX11_digest_103 : decode cX11_digest 103 = .ok (.goto (-24), 3) := by decide +kernel
theorem dX11_digest_106 : decode cX11_digest 106 = .ok (.iconst 0, 1) := by decide +kernel
theorem dX11_digest_107 : decode cX11_digest 107 = .ok (.istore_n 1, 1) := by decide +kernel
theorem dX11_digest_108 : decode cX11_digest 108 = .ok (.iload_n 1, 1) := by decide +kernel
theorem dX11_digest_109 : decode cX11_digest 109 = .ok (.aload_n 0, 1) := by decide +kernel
theorem dX11_digest_110 : decode cX11_digest 110 = .ok (.getfield 64, 3) := by decide +kernel
theorem dX11_digest_113 : decode cX11_digest 113 = .ok (.if_icmp .ge 20, 3) := by decide +kernel
theorem dX11_digest_116 : decode cX11_digest 116 = .ok (.aload_n 0, 1) := by decide +kernel
theorem dX11_digest_117 : decode cX11_digest 117 = .ok (.aload_n 0, 1) := by decide +kernel
theorem dX11_digest_118 : decode cX11_digest 118 = .ok (.getfield 7, 3) := by decide +kernel
theorem dX11_digest_121 : decode cX11_digest 121 = .ok (.iload_n 1, 1) := by decide +kernel
theorem dX11_digest_122 : decode cX11_digest 122 = .ok (.iaload, 1) := by decide +kernel
theorem dX11_digest_123 : decode cX11_digest 123 = .ok (.i2l, 1) := by decide +kernel
theorem dX11_digest_124 : decode cX11_digest 124 = .ok (.invokevirtual 241, 3) := by decide +kernel
theorem dX11_digest_127 : decode cX11_digest 127 = .ok (.iinc 1 1, 3) := by decide +kernel
theorem dX11_digest_130 : decode cX11_digest 130 = .ok (.goto (-22), 3) := by decide +kernel
theorem dX11_digest_133 : decode cX11_digest 133 = .ok (.iconst 0, 1) := by decide +kernel
theorem dX11_digest_134 : decode cX11_digest 134 = .ok (.istore_n 1, 1) := by decide +kernel
theorem dX11_digest_135 : decode cX11_digest 135 = .ok (.iload_n 1, 1) := by decide +kernel
theorem dX11_digest_136 : decode cX11_digest 136 = .ok (.iconst 5, 1) := by decide +kernel
theorem dX11_digest_137 : decode cX11_digest 137 = .ok (.if_icmp .ge 19, 3) := by decide +kernel
theorem dX11_digest_140 : decode cX11_digest 140 = .ok (.aload_n 0, 1) := by decide +kernel
theorem dX11_digest_141 : decode cX11_digest 141 = .ok (.aload_n 0, 1) := by decide +kernel
theorem dX11_digest_142 : decode cX11_digest 142 = .ok (.iload_n 1, 1) := by decide +kernel
theorem dX11_digest_143 : decode cX11_digest 143 = .ok (.invokevirtual 232, 3) := by decide +kernel
theorem dX11_digest_146 : decode cX11_digest 146 = .ok (.i2l, 1) := by decide +kernel
theorem dX11_digest_147 : decode cX11_digest 147 = .ok (.invokevirtual 241, 3) := by decide +kernel
theorem dX11_digest_150 : decode cX11_digest 150 = .ok (.iinc 1 1, 3) := by decide +kernel
theorem dX11_digest_153 : decode cX11_digest 153 = .ok (.goto (-18), 3) := by decide +kernel
theorem dX11_digest_156 : decode cX11_digest 156 = .ok (.aload_n 0, 1) := by decide +kernel
theorem dX11_digest_157 : decode cX11_digest 157 = .ok (.getfield 237, 3) := by decide +kernel
theorem dX11_digest_160 : decode cX11_digest 160 = .ok (.lreturn, 1) := by decide +kernel
