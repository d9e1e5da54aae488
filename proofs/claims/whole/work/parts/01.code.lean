theorem dP_init_0 : decode cP_init 0 = .ok (.aload_n 0, 1) := by decide +kernel
theorem dP_init_1 : decode cP_init 1 = .ok (.invokespecial 1, 3) := by decide +kernel
theorem dP_init_4 : decode cP_init 4 = .ok (.aload_n 0, 1) := by decide +kernel
theorem dP_init_5 : decode cP_init 5 = .ok (.new 7, 3) := by decide +kernel
theorem dP_init_8 : decode cP_init 8 = .ok (.dup, 1) := by decide +kernel
theorem dP_init_9 : decode cP_init 9 = .ok (.invokespecial 9, 3) := by decide +kernel
theorem dP_init_12 : decode cP_init 12 = .ok (.putfield 10, 3) := by decide +kernel
theorem dP_init_15 : decode cP_init 15 = .ok (.aload_n 0, 1) := by decide +kernel
theorem dP_init_16 : decode cP_init 16 = .ok (.new 16, 3) := by decide +kernel
theorem dP_init_19 : decode cP_init 19 = .ok (.dup, 1) := by decide +kernel
theorem dP_init_20 : decode cP_init 20 = .ok (.invokespecial 18, 3) := by decide +kernel
theorem dP_init_23 : decode cP_init 23 = .ok (.putfield 19, 3) := by decide +kernel
theorem dP_init_26 : decode cP_init 26 = .ok (.return_, 1) := by decide +kernel
theorem dJO_init_0 : decode cJO_init 0 = .ok (.return_, 1) := by decide +kernel
theorem dT_init_0 : decode cT_init 0 = .ok (.aload_n 0, 1) := by decide +kernel
theorem dT_init_1 : decode cT_init 1 = .ok (.invokespecial 1, 3) := by decide +kernel
theorem dT_init_4 : decode cT_init 4 = .ok (.aload_n 0, 1) := by decide +kernel
theorem dT_init_5 : decode cT_init 5 = .ok (.bipush 24, 2) := by decide +kernel
theorem dT_init_7 : decode cT_init 7 = .ok (.newarray .byte, 2) := by decide +kernel
theorem dT_init_9 : decode cT_init 9 = .ok (.putfield 9, 3) := by decide +kernel
theorem dT_init_12 : decode cT_init 12 = .ok (.aload_n 0, 1) := by decide +kernel
theorem dT_init_13 : decode cT_init 13 = .ok (.iconst 0, 1) := by decide +kernel
theorem dT_init_14 : decode cT_init 14 = .ok (.putfield 13, 3) := by decide +kernel
theorem dT_init_17 : decode cT_init 17 = .ok (.return_, 1) := by decide +kernel
theorem dS_init_0 : decode cS_init 0 = .ok (.aload_n 0, 1) := by decide +kernel
theorem dS_init_1 : decode cS_init 1 = .ok (.invokespecial 1, 3) := by decide +kernel
theorem dS_init_4 : decode cS_init 4 = .ok (.aload_n 0, 1) := by decide +kernel
theorem dS_init_5 : decode cS_init 5 = .ok (.new 7, 3) := by decide +kernel
theorem dS_init_8 : decode cS_init 8 = .ok (.dup, 1) := by decide +kernel
theorem dS_init_9 : decode cS_init 9 = .ok (.invokespecial 9, 3) := by decide +kernel
theorem dS_init_12 : decode cS_init 12 = .ok (.putfield 10, 3) := by decide +kernel
theorem dS_init_15 : decode cS_init 15 = .ok (.aload_n 0, 1) := by decide +kernel
theorem dS_init_16 : decode cS_init 16 = .ok (.new 7, 3) := by decide +kernel
theorem dS_init_19 : decode cS_init 19 = .ok (.dup, 1) := by decide +kernel
theorem dS_init_20 : decode cS_init 20 = .ok (.invokespecial 9, 3) := by decide +kernel
theorem dS_init_23 : decode cS_init 23 = .ok (.putfield 16, 3) := by decide +kernel
theorem dS_init_26 : decode cS_init 26 = .ok (.aload_n 0, 1) := by decide +kernel
theorem dS_init_27 : decode cS_init 27 = .ok (.new 7, 3) := by decide +kernel
theorem dS_init_30 : decode cS_init 30 = .ok (.dup, 1) := by decide +kernel
theorem dS_init_31 : decode cS_init 31 = .ok (.invokespecial 9, 3) := by decide +kernel
theorem dS_init_34 : decode cS_init 34 = .ok (.putfield 19, 3) := by decide +kernel
theorem dS_init_37 : decode cS_init 37 = .ok (.aload_n 0, 1) := by decide +kernel
theorem dS_init_38 : decode cS_init 38 = .ok (.new 7, 3) := by decide +kernel
theorem dS_init_41 : decode cS_init 41 = .ok (.dup, 1) := by decide +kernel
theorem dS_init_42 : decode cS_init 42 = .ok (.invokespecial 9, 3) := by decide +kernel
theorem dS_init_45 : decode cS_init 45 = .ok (.putfield 22, 3) := by decide +kernel
theorem dS_init_48 : decode cS_init 48 = .ok (.aload_n 0, 1) := by decide +kernel
theorem dS_init_49 : decode cS_init 49 = .ok (.new 7, 3) := by decide +kernel
theorem dS_init_52 : decode cS_init 52 = .ok (.dup, 1) := by decide +kernel
theorem dS_init_53 : decode cS_init 53 = .ok (.invokespecial 9, 3) := by decide +kernel
theorem dS_init_56 : decode cS_init 56 = .ok (.putfield 25, 3) := by decide +kernel
theorem dS_init_59 : decode cS_init 59 = .ok (.aload_n 0, 1) := by decide +kernel
theorem dS_init_60 : decode cS_init 60 = .ok (.bipush 17, 2) := by decide +kernel
theorem dS_init_62 : decode cS_init 62 = .ok (.newarray .char, 2) := by decide +kernel
theorem dS_init_64 : decode cS_init 64 = .ok (.putfield 28, 3) := by decide +kernel
theorem dS_init_67 : decode cS_init 67 = .ok (.aload_n 0, 1) := by decide +kernel
theorem dS_init_68 : decode cS_init 68 = .ok (.iconst 0, 1) := by decide +kernel
theorem dS_init_69 : decode cS_init 69 = .ok (.putfield 32, 3) := by decide +kernel
theorem dS_init_72 : decode cS_init 72 = .ok (.aload_n 0, 1) := by decide +kernel
theorem dS_init_73 : decode cS_init 73 = .ok (.iconst 0, 1) := by decide +kernel
theorem dS_init_74 : decode cS_init 74 = .ok (.putfield 36, 3) := by decide +kernel
theorem dS_init_77 : decode cS_init 77 = .ok (.return_, 1) := by decide +kernel
theorem dN_init_0 : decode cN_init 0 = .ok (.aload_n 0, 1) := by decide +kernel
theorem dN_init_1 : decode cN_init 1 = .ok (.invokespecial 1, 3) := by decide +kernel
theorem dN_init_4 : decode cN_init 4 = .ok (.aload_n 0, 1) := by decide +kernel
theorem dN_init_5 : decode cN_init 5 = .ok (.bipush 28, 2) := by decide +kernel
theorem dN_init_7 : decode cN_init 7 = .ok (.newarray .int, 2) := by decide +kernel
theorem dN_init_9 : decode cN_init 9 = .ok (.putfield 9, 3) := by decide +kernel
theorem dN_init_12 : decode cN_init 12 = .ok (.aload_n 0, 1) := by decide +kernel
theorem dN_init_13 : decode cN_init 13 = .ok (.iconst 0, 1) := by decide +kernel
theorem dN_init_14 : decode cN_init 14 = .ok (.putfield 13, 3) := by decide +kernel
theorem dN_init_17 : decode cN_init 17 = .ok (.return_, 1) := by decide +kernel
theorem dP_print_0 : decode cP_print 0 = .ok (.lload_n 1, 1) := by decide +kernel
theorem dP_print_1 : decode cP_print 1 = .ok (.ldc2_w 23, 3) := by decide +kernel
theorem dP_print_4 : decode cP_print 4 = .ok (.land, 1) := by decide +kernel
theorem dP_print_5 : decode cP_print 5 = .ok (.lstore_n 3, 1) := by decide +kernel
theorem dP_print_6 : decode cP_print 6 = .ok (.lload_n 1, 1) := by decide +kernel
theorem dP_print_7 : decode cP_print 7 = .ok (.bipush 52, 2) := by decide +kernel
theorem dP_print_9 : decode cP_print 9 = .ok (.lushr, 1) := by decide +kernel
theorem dP_print_10 : decode cP_print 10 = .ok (.l2i, 1) := by decide +kernel
theorem dP_print_11 : decode cP_print 11 = .ok (.sipush 2047, 3) := by decide +kernel
theorem dP_print_14 : decode cP_print 14 = .ok (.iand, 1) := by decide +kernel
theorem dP_print_15 : decode cP_print 15 = .ok (.istore 5, 2) := by decide +kernel
theorem dP_print_17 : decode cP_print 17 = .ok (.aload_n 0, 1) := by decide +kernel
theorem dP_print_18 : decode cP_print 18 = .ok (.lload_n 1, 1) := by decide +kernel
theorem dP_print_19 : decode cP_print 19 = .ok (.lconst 0, 1) := by decide +kernel
theorem dP_print_20 : decode cP_print 20 = .ok (.lcmp, 1) := by decide +kernel
theorem dP_print_21 : decode cP_print 21 = .ok (.ifCond .ge 7, 3) := by decide +kernel
theorem dP_print_24 : decode cP_print 24 = .ok (.iconst 1, 1) := by decide +kernel
theorem dP_print_25 : decode cP_print 25 = .ok (.goto 4, 3) := by decide +kernel
theorem dP_print_28 : decode cP_print 28 = .ok (.iconst 0, 1) := by decide +kernel
theorem dP_print_29 : decode cP_print 29 = .ok (.iload 5, 2) := by decide +kernel
theorem dP_print_31 : decode cP_print 31 = .ok (.sipush 2047, 3) := by decide +kernel
theorem dP_print_34 : decode cP_print 34 = .ok (.lload_n 3, 1) := by decide +kernel
theorem dP_print_35 : decode cP_print 35 = .ok (.bipush 52, 2) := by decide +kernel
theorem dP_print_37 : decode cP_print 37 = .ok (.invokevirtual 25, 3) := by decide +kernel
theorem dP_print_40 : decode cP_print 40 = .ok (.aload_n 0, 1) := by decide +kernel
theorem dP_print_41 : decode cP_print 41 = .ok (.getfield 10, 3) := by decide +kernel
theorem dP_print_44 : decode cP_print 44 = .ok (.invokevirtual 29, 3) := by decide +kernel
theorem dP_print_47 : decode cP_print 47 = .ok (.ireturn, 1) := by decide +kernel
theorem dP_write_0 : decode cP_write 0 = .ok (.iload_n 2, 1) := by decide +kernel
theorem dP_write_1 : decode cP_write 1 = .ok (.iload_n 3, 1) := by decide +kernel
theorem dP_write_2 : decode cP_write 2 = .ok (.if_icmp .eq 7, 3) := by decide +kernel
theorem dP_write_5 : decode cP_write 5 = .ok (.iconst 1, 1) := by decide +kernel
theorem dP_write_6 : decode cP_write 6 = .ok (.goto 4, 3) := by decide +kernel
theorem dP_write_9 : decode cP_write 9 = .ok (.iconst 0, 1) := by decide +kernel
theorem dP_write_10 : decode cP_write 10 = .ok (.istore 7, 2) := by decide +kernel
theorem dP_write_12 : decode cP_write 12 = .ok (.iload 7, 2) := by decide +kernel
theorem dP_write_14 : decode cP_write 14 = .ok (.ifCond .ne 14, 3) := by decide +kernel
theorem dP_write_17 : decode cP_write 17 = .ok (.lload 4, 2) := by decide +kernel
theorem dP_write_19 : decode cP_write 19 = .ok (.lconst 0, 1) := by decide +kernel
theorem dP_write_20 : decode cP_write 20 = .ok (.lcmp, 1) := by decide +kernel
theorem dP_write_21 : decode cP_write 21 = .ok (.ifCond .eq 7, 3) := by decide +kernel
theorem dP_write_24 : decode cP_write 24 = .ok (.iconst 1, 1) := by decide +kernel
theorem dP_write_25 : decode cP_write 25 = .ok (.goto 4, 3) := by decide +kernel
theorem dP_write_28 : decode cP_write 28 = .ok (.iconst 0, 1) := by decide +kernel
theorem dP_write_29 : decode cP_write 29 = .ok (.istore 8, 2) := by decide +kernel
theorem dP_write_31 : decode cP_write 31 = .ok (.aload_n 0, 1) := by decide +kernel
theorem dP_write_32 : decode cP_write 32 = .ok (.getfield 10, 3) := by decide +kernel
theorem dP_write_35 : decode cP_write 35 = .ok (.invokevirtual 45, 3) := by decide +kernel
theorem dP_write_38 : decode cP_write 38 = .ok (.iload_n 1, 1) := by decide +kernel
theorem dP_write_39 : decode cP_write 39 = .ok (.ifCond .eq 17, 3) := by decide +kernel
theorem dP_write_42 : decode cP_write 42 = .ok (.iload 8, 2) := by decide +kernel
theorem dP_write_44 : decode cP_write 44 = .ok (.ifCond .ne 12, 3) := by decide +kernel
theorem dP_write_47 : decode cP_write 47 = .ok (.aload_n 0, 1) := by decide +kernel
theorem dP_write_48 : decode cP_write 48 = .ok (.getfield 10, 3) := by decide +kernel
theorem dP_write_51 : decode cP_write 51 = .ok (.bipush 45, 2) := by decide +kernel
theorem dP_write_53 : decode cP_write 53 = .ok (.invokevirtual 48, 3) := by decide +kernel
theorem dP_write_56 : decode cP_write 56 = .ok (.iload 8, 2) := by decide +kernel
theorem dP_write_58 : decode cP_write 58 = .ok (.ifCond .eq 15, 3) := by decide +kernel
theorem dP_write_61 : decode cP_write 61 = .ok (.aload_n 0, 1) := by decide +kernel
theorem dP_write_62 : decode cP_write 62 = .ok (.getfield 10, 3) := by decide +kernel
theorem dP_write_65 : decode cP_write 65 = .ok (.ldc 52, 2) := by decide +kernel
theorem dP_write_67 : decode cP_write 67 = .ok (.invokevirtual 54, 3) := by decide +kernel
theorem dP_write_70 : decode cP_write 70 = .ok (.goto 70, 3) := by decide +kernel
theorem dP_write_73 : decode cP_write 73 = .ok (.iload 7, 2) := by decide +kernel
theorem dP_write_75 : decode cP_write 75 = .ok (.ifCond .ne 15, 3) := by decide +kernel
theorem dP_write_78 : decode cP_write 78 = .ok (.aload_n 0, 1) := by decide +kernel
theorem dP_write_79 : decode cP_write 79 = .ok (.getfield 10, 3) := by decide +kernel
theorem dP_write_82 : decode cP_write 82 = .ok (.ldc 58, 2) := by decide +kernel
theorem dP_write_84 : decode cP_write 84 = .ok (.invokevirtual 54, 3) := by decide +kernel
theorem dP_write_87 : decode cP_write 87 = .ok (.goto 53, 3) := by decide +kernel
theorem dP_write_90 : decode cP_write 90 = .ok (.iload_n 2, 1) := by decide +kernel
theorem dP_write_91 : decode cP_write 91 = .ok (.ifCond .ne 22, 3) := by decide +kernel
theorem dP_write_94 : decode cP_write 94 = .ok (.lload 4, 2) := by decide +kernel
theorem dP_write_96 : decode cP_write 96 = .ok (.lconst 0, 1) := by decide +kernel
theorem dP_write_97 : decode cP_write 97 = .ok (.lcmp, 1) := by decide +kernel
theorem dP_write_98 : decode cP_write 98 = .ok (.ifCond .ne 15, 3) := by decide +kernel
theorem dP_write_101 : decode cP_write 101 = .ok (.aload_n 0, 1) := by decide +kernel
theorem dP_write_102 : decode cP_write 102 = .ok (.getfield 10, 3) := by decide +kernel
theorem dP_write_105 : decode cP_write 105 = .ok (.ldc 60, 2) := by decide +kernel
theorem dP_write_107 : decode cP_write 107 = .ok (.invokevirtual 54, 3) := by decide +kernel
theorem dP_write_110 : decode cP_write 110 = .ok (.goto 30, 3) := by decide +kernel
theorem dP_write_113 : decode cP_write 113 = .ok (.iconst 1, 1) := by decide +kernel
theorem dP_write_114 : decode cP_write 114 = .ok (.iload_n 3, 1) := by decide +kernel
theorem dP_write_115 : decode cP_write 115 = .ok (.iconst 2, 1) := by decide +kernel
theorem dP_write_116 : decode cP_write 116 = .ok (.idiv, 1) := by decide +kernel
theorem dP_write_117 : decode cP_write 117 = .ok (.isub, 1) := by decide +kernel
theorem dP_write_118 : decode cP_write 118 = .ok (.iload 6, 2) := by decide +kernel
theorem dP_write_120 : decode cP_write 120 = .ok (.isub, 1) := by decide +kernel
theorem dP_write_121 : decode cP_write 121 = .ok (.istore 9, 2) := by decide +kernel
theorem dP_write_123 : decode cP_write 123 = .ok (.aload_n 0, 1) := by decide +kernel
theorem dP_write_124 : decode cP_write 124 = .ok (.iload_n 2, 1) := by decide +kernel
theorem dP_write_125 : decode cP_write 125 = .ok (.iload 9, 2) := by decide +kernel
theorem dP_write_127 : decode cP_write 127 = .ok (.lload 4, 2) := by decide +kernel
theorem dP_write_129 : decode cP_write 129 = .ok (.lconst 1, 1) := by decide +kernel
theorem dP_write_130 : decode cP_write 130 = .ok (.iload 6, 2) := by decide +kernel
theorem dP_write_132 : decode cP_write 132 = .ok (.lshl, 1) := by decide +kernel
theorem dP_write_133 : decode cP_write 133 = .ok (.invokevirtual 62, 3) := by decide +kernel
theorem dP_write_136 : decode cP_write 136 = .ok (.aload_n 0, 1) := by decide +kernel
theorem dP_write_137 : decode cP_write 137 = .ok (.invokevirtual 66, 3) := by decide +kernel
theorem dP_write_140 : decode cP_write 140 = .ok (.return_, 1) := by decide +kernel
theorem dT_clear_0 : decode cT_clear 0 = .ok (.aload_n 0, 1) := by decide +kernel
theorem dT_clear_1 : decode cT_clear 1 = .ok (.iconst 0, 1) := by decide +kernel
theorem dT_clear_2 : decode cT_clear 2 = .ok (.putfield 13, 3) := by decide +kernel
theorem dT_clear_5 : decode cT_clear 5 = .ok (.return_, 1) := by decide +kernel
theorem dT_add_0 : decode cT_add 0 = .ok (.aload_n 0, 1) := by decide +kernel
theorem dT_add_1 : decode cT_add 1 = .ok (.getfield 13, 3) := by decide +kernel
theorem dT_add_4 : decode cT_add 4 = .ok (.aload_n 0, 1) := by decide +kernel
theorem dT_add_5 : decode cT_add 5 = .ok (.getfield 9, 3) := by decide +kernel
theorem dT_add_8 : decode cT_add 8 = .ok (.arraylength, 1) := by decide +kernel
theorem dT_add_9 : decode cT_add 9 = .ok (.if_icmp .ge 24, 3) := by decide +kernel
theorem dT_add_12 : decode cT_add 12 = .ok (.aload_n 0, 1) := by decide +kernel
theorem dT_add_13 : decode cT_add 13 = .ok (.getfield 9, 3) := by decide +kernel
theorem dT_add_16 : decode cT_add 16 = .ok (.aload_n 0, 1) := by decide +kernel
theorem dT_add_17 : decode cT_add 17 = .ok (.getfield 13, 3) := by decide +kernel
theorem dT_add_20 : decode cT_add 20 = .ok (.iload_n 1, 1) := by decide +kernel
theorem dT_add_21 : decode cT_add 21 = .ok (.i2b, 1) := by decide +kernel
theorem dT_add_22 : decode cT_add 22 = .ok (.bastore, 1) := by decide +kernel
theorem dT_add_23 : decode cT_add 23 = .ok (.aload_n 0, 1) := by decide +kernel
theorem dT_add_24 : decode cT_add 24 = .ok (.dup, 1) := by decide +kernel
theorem dT_add_25 : decode cT_add 25 = .ok (.getfield 13, 3) := by decide +kernel
theorem dT_add_28 : decode cT_add 28 = .ok (.iconst 1, 1) := by decide +kernel
theorem dT_add_29 : decode cT_add 29 = .ok (.iadd, 1) := by decide +kernel
theorem dT_add_30 : decode cT_add 30 = .ok (.putfield 13, 3) := by decide +kernel
theorem dT_add_33 : decode cT_add 33 = .ok (.return_, 1) := by decide +kernel
theorem dT_addAll_0 : decode cT_addAll 0 = .ok (.iconst 0, 1) := by decide +kernel
theorem dT_addAll_1 : decode cT_addAll 1 = .ok (.istore_n 2, 1) := by decide +kernel
theorem dT_addAll_2 : decode cT_addAll 2 = .ok (.iload_n 2, 1) := by decide +kernel
theorem dT_addAll_3 : decode cT_addAll 3 = .ok (.aload_n 1, 1) := by decide +kernel
theorem dT_addAll_4 : decode cT_addAll 4 = .ok (.invokevirtual 17, 3) := by decide +kernel
theorem dT_addAll_7 : decode cT_addAll 7 = .ok (.if_icmp .ge 18, 3) := by decide +kernel
theorem dT_addAll_10 : decode cT_addAll 10 = .ok (.aload_n 0, 1) := by decide +kernel
theorem dT_addAll_11 : decode cT_addAll 11 = .ok (.aload_n 1, 1) := by decide +kernel
theorem dT_addAll_12 : decode cT_addAll 12 = .ok (.iload_n 2, 1) := by decide +kernel
theorem dT_addAll_13 : decode cT_addAll 13 = .ok (.invokevirtual 22, 3) := by decide +kernel
theorem dT_addAll_16 : decode cT_addAll 16 = .ok (.invokevirtual 26, 3) := by decide +kernel
theorem dT_addAll_19 : decode cT_addAll 19 = .ok (.iinc 2 1, 3) := by decide +kernel
theorem dT_addAll_22 : decode cT_addAll 22 = .ok (.goto (-20), 3) := by decide +kernel
theorem dT_addAll_25 : decode cT_addAll 25 = .ok (.return_, 1) := by decide +kernel
theorem dJS_length_0 : decode cJS_length 0 = .ok (.aload_n 0, 1) := by decide +kernel
theorem dJS_length_1 : decode cJS_length 1 = .ok (.getfield 9, 3) := by decide +kernel
theorem dJS_length_4 : decode cJS_length 4 = .ok (.arraylength, 1) := by decide +kernel
theorem dJS_length_5 : decode cJS_length 5 = .ok (.aload_n 0, 1) := by decide +kernel
theorem dJS_length_6 : decode cJS_length 6 = .ok (.invokevirtual 335, 3) := by decide +kernel
theorem dJS_length_9 : decode cJS_length 9 = .ok (.ishr, 1) := by decide +kernel
theorem dJS_length_10 : decode cJS_length 10 = .ok (.ireturn, 1) := by decide +kernel
theorem dJS_coder_0 : decode cJS_coder 0 = .ok (.getstatic 38, 3) := by decide +kernel
theorem dJS_coder_3 : decode cJS_coder 3 = .ok (.ifCond .eq 10, 3) := by decide +kernel
theorem dJS_coder_6 : decode cJS_coder 6 = .ok (.aload_n 0, 1) := by decide +kernel
theorem dJS_coder_7 : decode cJS_coder 7 = .ok (.getfield 15, 3) := by decide +kernel
theorem dJS_coder_10 : decode cJS_coder 10 = .ok (.goto 4, 3) := by decide +kernel
theorem dJS_coder_13 : decode cJS_coder 13 = .ok (.iconst 1, 1) := by decide +kernel
theorem dJS_coder_14 : decode cJS_coder 14 = .ok (.ireturn, 1) := by decide +kernel
theorem dJS_charAt_0 : decode cJS_charAt 0 = .ok (.aload_n 0, 1) := by decide +kernel
theorem dJS_charAt_1 : decode cJS_charAt 1 = .ok (.invokevirtual 492, 3) := by decide +kernel
theorem dJS_charAt_4 : decode cJS_charAt 4 = .ok (.ifCond .eq 12, 3) := by decide +kernel
theorem dJS_charAt_7 : decode cJS_charAt 7 = .ok (.aload_n 0, 1) := by decide +kernel
theorem dJS_charAt_8 : decode cJS_charAt 8 = .ok (.getfield 9, 3) := by decide +kernel
theorem dJS_charAt_11 : decode cJS_charAt 11 = .ok (.iload_n 1, 1) := by decide +kernel
theorem dJS_charAt_12 : decode cJS_charAt 12 = .ok (.invokestatic 495, 3) := by decide +kernel
theorem dJS_charAt_15 : decode cJS_charAt 15 = .ok (.ireturn, 1) := by decide +kernel
theorem dJS_charAt_16 : decode cJS_charAt 16 = .ok (.aload_n 0, 1) := by decide +kernel
theorem dJS_charAt_17 : decode cJS_charAt 17 = .ok (.getfield 9, 3) := by decide +kernel
theorem dJS_charAt_20 : decode cJS_charAt 20 = .ok (.iload_n 1, 1) := by decide +kernel
theorem dJS_charAt_21 : decode cJS_charAt 21 = .ok (.invokestatic 498, 3) := by decide +kernel
theorem dJS_charAt_24 : decode cJS_charAt 24 = .ok (.ireturn, 1) := by decide +kernel
theorem dJS_isLatin1_0 : decode cJS_isLatin1 0 = .ok (.getstatic 38, 3) := by decide +kernel
theorem dJS_isLatin1_3 : decode cJS_isLatin1 3 = .ok (.ifCond .eq 14, 3) := by decide +kernel
theorem dJS_isLatin1_6 : decode cJS_isLatin1 6 = .ok (.aload_n 0, 1) := by decide +kernel
theorem dJS_isLatin1_7 : decode cJS_isLatin1 7 = .ok (.getfield 15, 3) := by decide +kernel
theorem dJS_isLatin1_10 : decode cJS_isLatin1 10 = .ok (.ifCond .ne 7, 3) := by decide +kernel
theorem dJS_isLatin1_13 : decode cJS_isLatin1 13 = .ok (.iconst 1, 1) := by decide +kernel
theorem dJS_isLatin1_14 : decode cJS_isLatin1 14 = .ok (.goto 4, 3) := by decide +kernel
theorem dJS_isLatin1_17 : decode cJS_isLatin1 17 = .ok (.iconst 0, 1) := by decide +kernel
theorem dJS_isLatin1_18 : decode cJS_isLatin1 18 = .ok (.ireturn, 1) := by decide +kernel
theorem dJA_charAt_0 : decode cJA_charAt 0 = .ok (.iload_n 1, 1) := by decide +kernel
theorem dJA_charAt_1 : decode cJA_charAt 1 = .ok (.aload_n 0, 1) := by decide +kernel
theorem dJA_charAt_2 : decode cJA_charAt 2 = .ok (.arraylength, 1) := by decide +kernel
theorem dJA_charAt_3 : decode cJA_charAt 3 = .ok (.invokestatic 9, 3) := by decide +kernel
theorem dJA_charAt_6 : decode cJA_charAt 6 = .ok (.aload_n 0, 1) := by decide +kernel
theorem dJA_charAt_7 : decode cJA_charAt 7 = .ok (.iload_n 1, 1) := by decide +kernel
theorem dJA_charAt_8 : decode cJA_charAt 8 = .ok (.baload, 1) := by decide +kernel
theorem dJA_charAt_9 : decode cJA_charAt 9 = .ok (.sipush 255, 3) := by decide +kernel
theorem dJA_charAt_12 : decode cJA_charAt 12 = .ok (.iand, 1) := by decide +kernel
theorem dJA_charAt_13 : decode cJA_charAt 13 = .ok (.i2c, 1) := by decide +kernel
theorem dJA_charAt_14 : decode cJA_charAt 14 = .ok (.ireturn, 1) := by decide +kernel
theorem dJS_checkIndex_0 : decode cJS_checkIndex 0 = .ok (.iload_n 0, 1) := by decide +kernel
theorem dJS_checkIndex_1 : decode cJS_checkIndex 1 = .ok (.iload_n 1, 1) := by decide +kernel
theorem dJS_checkIndex_2 : decode cJS_checkIndex 2 = .ok (.getstatic 1053, 3) := by decide +kernel
theorem dJS_checkIndex_5 : decode cJS_checkIndex 5 = .ok (.invokestatic 1059, 3) := by decide +kernel
theorem dJS_checkIndex_8 : decode cJS_checkIndex 8 = .ok (.pop, 1) := by decide +kernel
theorem dJS_checkIndex_9 : decode cJS_checkIndex 9 = .ok (.return_, 1) := by decide +kernel
theorem dJP_checkIndex_0 : decode cJP_checkIndex 0 = .ok (.iload_n 0, 1) := by decide +kernel
theorem dJP_checkIndex_1 : decode cJP_checkIndex 1 = .ok (.ifCond .lt 8, 3) := by decide +kernel
theorem dJP_checkIndex_4 : decode cJP_checkIndex 4 = .ok (.iload_n 0, 1) := by decide +kernel
theorem dJP_checkIndex_5 : decode cJP_checkIndex 5 = .ok (.iload_n 1, 1) := by decide +kernel
theorem dJP_checkIndex_6 : decode cJP_checkIndex 6 = .ok (.if_icmp .lt 10, 3) := by decide +kernel
theorem dJP_checkIndex_9 : decode cJP_checkIndex 9 = .ok (.aload_n 2, 1) := by decide +kernel
theorem dJP_checkIndex_10 : decode cJP_checkIndex 10 = .ok (.iload_n 0, 1) := by decide +kernel
theorem dJP_checkIndex_11 : decode cJP_checkIndex 11 = .ok (.iload_n 1, 1) := by decide +kernel
theorem dJP_checkIndex_12 : decode cJP_checkIndex 12 = .ok (.invokestatic 95, 3) := by decide +kernel
theorem dJP_checkIndex_15 : decode cJP_checkIndex 15 = .ok (.athrow, 1) := by decide +kernel
theorem dJP_checkIndex_16 : decode cJP_checkIndex 16 = .ok (.iload_n 0, 1) := by decide +kernel
theorem dJP_checkIndex_17 : decode cJP_checkIndex 17 = .ok (.ireturn, 1) := by decide +kernel
theorem dJU_charAt_0 : decode cJU_charAt 0 = .ok (.iload_n 1, 1) := by decide +kernel
theorem dJU_charAt_1 : decode cJU_charAt 1 = .ok (.aload_n 0, 1) := by decide +kernel
theorem dJU_charAt_2 : decode cJU_charAt 2 = .ok (.invokestatic 67, 3) := by decide +kernel
theorem dJU_charAt_5 : decode cJU_charAt 5 = .ok (.aload_n 0, 1) := by decide +kernel
theorem dJU_charAt_6 : decode cJU_charAt 6 = .ok (.iload_n 1, 1) := by decide +kernel
theorem dJU_charAt_7 : decode cJU_charAt 7 = .ok (.invokestatic 71, 3) := by decide +kernel
theorem dJU_charAt_10 : decode cJU_charAt 10 = .ok (.ireturn, 1) := by decide +kernel
theorem dJU_checkIndex_0 : decode cJU_checkIndex 0 = .ok (.iload_n 0, 1) := by decide +kernel
theorem dJU_checkIndex_1 : decode cJU_checkIndex 1 = .ok (.aload_n 1, 1) := by decide +kernel
theorem dJU_checkIndex_2 : decode cJU_checkIndex 2 = .ok (.invokestatic 48, 3) := by decide +kernel
theorem dJU_checkIndex_5 : decode cJU_checkIndex 5 = .ok (.invokestatic 414, 3) := by decide +kernel
theorem dJU_checkIndex_8 : decode cJU_checkIndex 8 = .ok (.return_, 1) := by decide +kernel
theorem dJU_length_0 : decode cJU_length 0 = .ok (.aload_n 0, 1) := by decide +kernel
theorem dJU_length_1 : decode cJU_length 1 = .ok (.arraylength, 1) := by decide +kernel
theorem dJU_length_2 : decode cJU_length 2 = .ok (.iconst 1, 1) := by decide +kernel
theorem dJU_length_3 : decode cJU_length 3 = .ok (.ishr, 1) := by decide +kernel
theorem dJU_length_4 : decode cJU_length 4 = .ok (.ireturn, 1) := by decide +kernel
theorem dJU_getChar_0 : decode cJU_getChar 0 = .ok (.getstatic 44, 3) := by decide +kernel
theorem dJU_getChar_3 : decode cJU_getChar 3 = .ok (.ifCond .ne 25, 3) := by decide +kernel
theorem dJU_getChar_6 : decode cJU_getChar 6 = .ok (.iload_n 1, 1) := by decide +kernel
theorem dJU_getChar_7 : decode cJU_getChar 7 = .ok (.ifCond .lt 11, 3) := by decide +kernel
theorem dJU_getChar_10 : decode cJU_getChar 10 = .ok (.iload_n 1, 1) := by decide +kernel
theorem dJU_getChar_11 : decode cJU_getChar 11 = .ok (.aload_n 0, 1) := by decide +kernel
theorem dJU_getChar_12 : decode cJU_getChar 12 = .ok (.invokestatic 48, 3) := by decide +kernel
theorem dJU_getChar_15 : decode cJU_getChar 15 = .ok (.if_icmp .lt 13, 3) := by decide +kernel
theorem dJU_getChar_18 : decode cJU_getChar 18 = .ok (.new 52, 3) := by decide +kernel
theorem dJU_getChar_21 : decode cJU_getChar 21 = .ok (.dup, 1) := by decide +kernel
theorem dJU_getChar_22 : decode cJU_getChar 22 = .ok (.ldc 54, 2) := by decide +kernel
theorem dJU_getChar_24 : decode cJU_getChar 24 = .ok (.invokespecial 56, 3) := by decide +kernel
theorem dJU_getChar_27 : decode cJU_getChar 27 = .ok (.athrow, 1) := by decide +kernel
theorem dJU_getChar_28 : decode cJU_getChar 28 = .ok (.iload_n 1, 1) := by decide +kernel
theorem dJU_getChar_29 : decode cJU_getChar 29 = .ok (.iconst 1, 1) := by decide +kernel
theorem dJU_getChar_30 : decode cJU_getChar 30 = .ok (.ishl, 1) := by decide +kernel
theorem dJU_getChar_31 : decode cJU_getChar 31 = .ok (.istore_n 1, 1) := by decide +kernel
theorem dJU_getChar_32 : decode cJU_getChar 32 = .ok (.aload_n 0, 1) := by decide +kernel
theorem dJU_getChar_33 : decode cJU_getChar 33 = .ok (.iload_n 1, 1) := by decide +kernel
theorem dJU_getChar_34 : decode cJU_getChar 34 = .ok (.iinc 1 1, 3) := by decide +kernel
theorem dJU_getChar_37 : decode cJU_getChar 37 = .ok (.baload, 1) := by decide +kernel
theorem dJU_getChar_38 : decode cJU_getChar 38 = .ok (.sipush 255, 3) := by decide +kernel
theorem dJU_getChar_41 : decode cJU_getChar 41 = .ok (.iand, 1) := by decide +kernel
theorem dJU_getChar_42 : decode cJU_getChar 42 = .ok (.getstatic 59, 3) := by decide +kernel
theorem dJU_getChar_45 : decode cJU_getChar 45 = .ok (.ishl, 1) := by decide +kernel
theorem dJU_getChar_46 : decode cJU_getChar 46 = .ok (.aload_n 0, 1) := by decide +kernel
theorem dJU_getChar_47 : decode cJU_getChar 47 = .ok (.iload_n 1, 1) := by decide +kernel
theorem dJU_getChar_48 : decode cJU_getChar 48 = .ok (.baload, 1) := by decide +kernel
theorem dJU_getChar_49 : decode cJU_getChar 49 = .ok (.sipush 255, 3) := by decide +kernel
theorem dJU_getChar_52 : decode cJU_getChar 52 = .ok (.iand, 1) := by decide +kernel
theorem dJU_getChar_53 : decode cJU_getChar 53 = .ok (.getstatic 63, 3) := by decide +kernel
theorem dJU_getChar_56 : decode cJU_getChar 56 = .ok (.ishl, 1) := by decide +kernel
theorem dJU_getChar_57 : decode cJU_getChar 57 = .ok (.ior, 1) := by decide +kernel
theorem dJU_getChar_58 : decode cJU_getChar 58 = .ok (.i2c, 1) := by decide +kernel
theorem dJU_getChar_59 : decode cJU_getChar 59 = .ok (.ireturn, 1) := by decide +kernel
theorem dP_findShortest_0 : decode cP_findShortest 0 = .ok (.iload_n 1, 1) := by decide +kernel
theorem dP_findShortest_1 : decode cP_findShortest 1 = .ok (.ifCond .ne 16, 3) := by decide +kernel
theorem dP_findShortest_4 : decode cP_findShortest 4 = .ok (.aload_n 0, 1) := by decide +kernel
theorem dP_findShortest_5 : decode cP_findShortest 5 = .ok (.getfield 19, 3) := by decide +kernel
theorem dP_findShortest_8 : decode cP_findShortest 8 = .ok (.lload_n 3, 1) := by decide +kernel
theorem dP_findShortest_9 : decode cP_findShortest 9 = .ok (.iload_n 2, 1) := by decide +kernel
theorem dP_findShortest_10 : decode cP_findShortest 10 = .ok (.iconst 0, 1) := by decide +kernel
theorem dP_findShortest_11 : decode cP_findShortest 11 = .ok (.invokevirtual 69, 3) := by decide +kernel
theorem dP_findShortest_14 : decode cP_findShortest 14 = .ok (.goto 39, 3) := by decide +kernel
theorem dP_findShortest_17 : decode cP_findShortest 17 = .ok (.lload_n 3, 1) := by decide +kernel
theorem dP_findShortest_18 : decode cP_findShortest 18 = .ok (.lconst 0, 1) := by decide +kernel
theorem dP_findShortest_19 : decode cP_findShortest 19 = .ok (.lcmp, 1) := by decide +kernel
theorem dP_findShortest_20 : decode cP_findShortest 20 = .ok (.ifCond .ne 12, 3) := by decide +kernel
theorem dP_findShortest_23 : decode cP_findShortest 23 = .ok (.iload_n 1, 1) := by decide +kernel
theorem dP_findShortest_24 : decode cP_findShortest 24 = .ok (.iconst 1, 1) := by decide +kernel
theorem dP_findShortest_25 : decode cP_findShortest 25 = .ok (.if_icmp .le 7, 3) := by decide +kernel
theorem dP_findShortest_28 : decode cP_findShortest 28 = .ok (.iconst 1, 1) := by decide +kernel
theorem dP_findShortest_29 : decode cP_findShortest 29 = .ok (.goto 4, 3) := by decide +kernel
theorem dP_findShortest_32 : decode cP_findShortest 32 = .ok (.iconst 0, 1) := by decide +kernel
theorem dP_findShortest_33 : decode cP_findShortest 33 = .ok (.istore 7, 2) := by decide +kernel
theorem dP_findShortest_35 : decode cP_findShortest 35 = .ok (.aload_n 0, 1) := by decide +kernel
theorem dP_findShortest_36 : decode cP_findShortest 36 = .ok (.getfield 19, 3) := by decide +kernel
theorem dP_findShortest_39 : decode cP_findShortest 39 = .ok (.lload 5, 2) := by decide +kernel
theorem dP_findShortest_41 : decode cP_findShortest 41 = .ok (.lload_n 3, 1) := by decide +kernel
theorem dP_findShortest_42 : decode cP_findShortest 42 = .ok (.lor, 1) := by decide +kernel
theorem dP_findShortest_43 : decode cP_findShortest 43 = .ok (.iload_n 2, 1) := by decide +kernel
theorem dP_findShortest_44 : decode cP_findShortest 44 = .ok (.iload_n 1, 1) := by decide +kernel
theorem dP_findShortest_45 : decode cP_findShortest 45 = .ok (.iadd, 1) := by decide +kernel
theorem dP_findShortest_46 : decode cP_findShortest 46 = .ok (.iconst 1, 1) := by decide +kernel
theorem dP_findShortest_47 : decode cP_findShortest 47 = .ok (.isub, 1) := by decide +kernel
theorem dP_findShortest_48 : decode cP_findShortest 48 = .ok (.iload 7, 2) := by decide +kernel
theorem dP_findShortest_50 : decode cP_findShortest 50 = .ok (.invokevirtual 69, 3) := by decide +kernel
theorem dP_findShortest_53 : decode cP_findShortest 53 = .ok (.return_, 1) := by decide +kernel
theorem dS_find_0 : decode cS_find 0 = .ok (.aload_n 0, 1) := by decide +kernel
theorem dS_find_1 : decode cS_find 1 = .ok (.lload_n 1, 1) := by decide +kernel
theorem dS_find_2 : decode cS_find 2 = .ok (.iload_n 3, 1) := by decide +kernel
theorem dS_find_3 : decode cS_find 3 = .ok (.iload 4, 2) := by decide +kernel
theorem dS_find_5 : decode cS_find 5 = .ok (.invokevirtual 39, 3) := by decide +kernel
theorem dS_find_8 : decode cS_find 8 = .ok (.lload_n 1, 1) := by decide +kernel
theorem dS_find_9 : decode cS_find 9 = .ok (.lconst 1, 1) := by decide +kernel
theorem dS_find_10 : decode cS_find 10 = .ok (.land, 1) := by decide +kernel
theorem dS_find_11 : decode cS_find 11 = .ok (.lconst 0, 1) := by decide +kernel
theorem dS_find_12 : decode cS_find 12 = .ok (.lcmp, 1) := by decide +kernel
theorem dS_find_13 : decode cS_find 13 = .ok (.ifCond .ne 7, 3) := by decide +kernel
theorem dS_find_16 : decode cS_find 16 = .ok (.iconst 1, 1) := by decide +kernel
theorem dS_find_17 : decode cS_find 17 = .ok (.goto 4, 3) := by decide +kernel
theorem dS_find_20 : decode cS_find 20 = .ok (.iconst 0, 1) := by decide +kernel
theorem dS_find_21 : decode cS_find 21 = .ok (.istore 5, 2) := by decide +kernel
theorem dS_find_23 : decode cS_find 23 = .ok (.iconst 0, 1) := by decide +kernel
theorem dS_find_24 : decode cS_find 24 = .ok (.istore 6, 2) := by decide +kernel
theorem dS_find_26 : decode cS_find 26 = .ok (.iconst 0, 1) := by decide +kernel
theorem dS_find_27 : decode cS_find 27 = .ok (.istore 7, 2) := by decide +kernel
theorem dS_find_29 : decode cS_find 29 = .ok (.lconst 0, 1) := by decide +kernel
theorem dS_find_30 : decode cS_find 30 = .ok (.lstore 8, 2) := by decide +kernel
theorem dS_find_32 : decode cS_find 32 = .ok (.iconst 0, 1) := by decide +kernel
theorem dS_find_33 : decode cS_find 33 = .ok (.istore 10, 2) := by decide +kernel
theorem dS_find_35 : decode cS_find 35 = .ok (.iload 10, 2) := by decide +kernel
theorem dS_find_37 : decode cS_find 37 = .ok (.bipush 17, 2) := by decide +kernel
theorem dS_find_39 : decode cS_find 39 = .ok (.if_icmp .ge 55, 3) := by decide +kernel
theorem dS_find_42 : decode cS_find 42 = .ok (.iload 6, 2) := by decide +kernel
theorem dS_find_44 : decode cS_find 44 = .ok (.ifCond .ne 50, 3) := by decide +kernel
theorem dS_find_47 : decode cS_find 47 = .ok (.iload 7, 2) := by decide +kernel
theorem dS_find_49 : decode cS_find 49 = .ok (.ifCond .ne 45, 3) := by decide +kernel
theorem dS_find_52 : decode cS_find 52 = .ok (.lload 8, 2) := by decide +kernel
theorem dS_find_54 : decode cS_find 54 = .ok (.ldc2_w 43, 3) := by decide +kernel
theorem dS_find_57 : decode cS_find 57 = .ok (.lmul, 1) := by decide +kernel
theorem dS_find_58 : decode cS_find 58 = .ok (.aload_n 0, 1) := by decide +kernel
theorem dS_find_59 : decode cS_find 59 = .ok (.invokevirtual 45, 3) := by decide +kernel
theorem dS_find_62 : decode cS_find 62 = .ok (.i2l, 1) := by decide +kernel
theorem dS_find_63 : decode cS_find 63 = .ok (.ladd, 1) := by decide +kernel
theorem dS_find_64 : decode cS_find 64 = .ok (.lstore 8, 2) := by decide +kernel
theorem dS_find_66 : decode cS_find 66 = .ok (.iinc 10 1, 3) := by decide +kernel
theorem dS_find_69 : decode cS_find 69 = .ok (.iload 10, 2) := by decide +kernel
theorem dS_find_71 : decode cS_find 71 = .ok (.iconst 2, 1) := by decide +kernel
theorem dS_find_72 : decode cS_find 72 = .ok (.if_icmp .lt (-37), 3) := by decide +kernel
theorem dS_find_75 : decode cS_find 75 = .ok (.aload_n 0, 1) := by decide +kernel
theorem dS_find_76 : decode cS_find 76 = .ok (.iload 5, 2) := by decide +kernel
theorem dS_find_78 : decode cS_find 78 = .ok (.invokevirtual 49, 3) := by decide +kernel
theorem dS_find_81 : decode cS_find 81 = .ok (.istore 6, 2) := by decide +kernel
theorem dS_find_83 : decode cS_find 83 = .ok (.aload_n 0, 1) := by decide +kernel
theorem dS_find_84 : decode cS_find 84 = .ok (.iload 5, 2) := by decide +kernel
theorem dS_find_86 : decode cS_find 86 = .ok (.invokevirtual 53, 3) := by decide +kernel
theorem dS_find_89 : decode cS_find 89 = .ok (.istore 7, 2) := by decide +kernel
theorem dS_find_91 : decode cS_find 91 = .ok (.goto (-56), 3) := by decide +kernel
theorem dS_find_94 : decode cS_find 94 = .ok (.iload 7, 2) := by decide +kernel
theorem dS_find_96 : decode cS_find 96 = .ok (.ifCond .eq 23, 3) := by decide +kernel
theorem dS_find_99 : decode cS_find 99 = .ok (.iload 6, 2) := by decide +kernel
theorem dS_find_101 : decode cS_find 101 = .ok (.ifCond .eq 12, 3) := by decide +kernel
theorem dS_find_104 : decode cS_find 104 = .ok (.aload_n 0, 1) := by decide +kernel
theorem dS_find_105 : decode cS_find 105 = .ok (.lload 8, 2) := by decide +kernel
theorem dS_find_107 : decode cS_find 107 = .ok (.invokevirtual 56, 3) := by decide +kernel
theorem dS_find_110 : decode cS_find 110 = .ok (.ifCond .eq 9, 3) := by decide +kernel
theorem dS_find_113 : decode cS_find 113 = .ok (.lload 8, 2) := by decide +kernel
theorem dS_find_115 : decode cS_find 115 = .ok (.lconst 1, 1) := by decide +kernel
theorem dS_find_116 : decode cS_find 116 = .ok (.ladd, 1) := by decide +kernel
theorem dS_find_117 : decode cS_find 117 = .ok (.lstore 8, 2) := by decide +kernel
theorem dS_find_119 : decode cS_find 119 = .ok (.aload_n 0, 1) := by decide +kernel
theorem dS_find_120 : decode cS_find 120 = .ok (.lload 8, 2) := by decide +kernel
theorem dS_find_122 : decode cS_find 122 = .ok (.aload_n 0, 1) := by decide +kernel
theorem dS_find_123 : decode cS_find 123 = .ok (.getfield 36, 3) := by decide +kernel
theorem dS_find_126 : decode cS_find 126 = .ok (.iload 10, 2) := by decide +kernel
theorem dS_find_128 : decode cS_find 128 = .ok (.isub, 1) := by decide +kernel
theorem dS_find_129 : decode cS_find 129 = .ok (.invokevirtual 60, 3) := by decide +kernel
theorem dS_find_132 : decode cS_find 132 = .ok (.return_, 1) := by decide +kernel
theorem dS_start_0 : decode cS_start 0 = .ok (.iload_n 3, 1) := by decide +kernel
theorem dS_start_1 : decode cS_start 1 = .ok (.iconst 2, 1) := by decide +kernel
theorem dS_start_2 : decode cS_start 2 = .ok (.isub, 1) := by decide +kernel
theorem dS_start_3 : decode cS_start 3 = .ok (.istore 5, 2) := by decide +kernel
theorem dS_start_5 : decode cS_start 5 = .ok (.iload_n 3, 1) := by decide +kernel
theorem dS_start_6 : decode cS_start 6 = .ok (.bipush 63, 2) := by decide +kernel
theorem dS_start_8 : decode cS_start 8 = .ok (.iadd, 1) := by decide +kernel
theorem dS_start_9 : decode cS_start 9 = .ok (.lload_n 1, 1) := by decide +kernel
theorem dS_start_10 : decode cS_start 10 = .ok (.invokestatic 64, 3) := by decide +kernel
theorem dS_start_13 : decode cS_start 13 = .ok (.isub, 1) := by decide +kernel
theorem dS_start_14 : decode cS_start 14 = .ok (.istore 6, 2) := by decide +kernel
theorem dS_start_16 : decode cS_start 16 = .ok (.aload_n 0, 1) := by decide +kernel
theorem dS_start_17 : decode cS_start 17 = .ok (.iconst 1, 1) := by decide +kernel
theorem dS_start_18 : decode cS_start 18 = .ok (.iload 6, 2) := by decide +kernel
theorem dS_start_20 : decode cS_start 20 = .ok (.i2l, 1) := by decide +kernel
theorem dS_start_21 : decode cS_start 21 = .ok (.ldc2_w 70, 3) := by decide +kernel
theorem dS_start_24 : decode cS_start 24 = .ok (.lmul, 1) := by decide +kernel
theorem dS_start_25 : decode cS_start 25 = .ok (.bipush 41, 2) := by decide +kernel
theorem dS_start_27 : decode cS_start 27 = .ok (.lshr, 1) := by decide +kernel
theorem dS_start_28 : decode cS_start 28 = .ok (.l2i, 1) := by decide +kernel
theorem dS_start_29 : decode cS_start 29 = .ok (.iadd, 1) := by decide +kernel
theorem dS_start_30 : decode cS_start 30 = .ok (.putfield 36, 3) := by decide +kernel
theorem dS_start_33 : decode cS_start 33 = .ok (.aload_n 0, 1) := by decide +kernel
theorem dS_start_34 : decode cS_start 34 = .ok (.getfield 36, 3) := by decide +kernel
theorem dS_start_37 : decode cS_start 37 = .ok (.ineg, 1) := by decide +kernel
theorem dS_start_38 : decode cS_start 38 = .ok (.iconst 0, 1) := by decide +kernel
theorem dS_start_39 : decode cS_start 39 = .ok (.invokestatic 72, 3) := by decide +kernel
theorem dS_start_42 : decode cS_start 42 = .ok (.istore 7, 2) := by decide +kernel
theorem dS_start_44 : decode cS_start 44 = .ok (.iload 5, 2) := by decide +kernel
theorem dS_start_46 : decode cS_start 46 = .ok (.aload_n 0, 1) := by decide +kernel
theorem dS_start_47 : decode cS_start 47 = .ok (.getfield 36, 3) := by decide +kernel
theorem dS_start_50 : decode cS_start 50 = .ok (.isub, 1) := by decide +kernel
theorem dS_start_51 : decode cS_start 51 = .ok (.iconst 0, 1) := by decide +kernel
theorem dS_start_52 : decode cS_start 52 = .ok (.invokestatic 72, 3) := by decide +kernel
theorem dS_start_55 : decode cS_start 55 = .ok (.istore 8, 2) := by decide +kernel
theorem dS_start_57 : decode cS_start 57 = .ok (.aload_n 0, 1) := by decide +kernel
theorem dS_start_58 : decode cS_start 58 = .ok (.getfield 16, 3) := by decide +kernel
theorem dS_start_61 : decode cS_start 61 = .ok (.ldc2_w 78, 3) := by decide +kernel
theorem dS_start_64 : decode cS_start 64 = .ok (.lload_n 1, 1) := by decide +kernel
theorem dS_start_65 : decode cS_start 65 = .ok (.lmul, 1) := by decide +kernel
theorem dS_start_66 : decode cS_start 66 = .ok (.iload 7, 2) := by decide +kernel
theorem dS_start_68 : decode cS_start 68 = .ok (.iload 8, 2) := by decide +kernel
theorem dS_start_70 : decode cS_start 70 = .ok (.invokevirtual 80, 3) := by decide +kernel
theorem dS_start_73 : decode cS_start 73 = .ok (.aload_n 0, 1) := by decide +kernel
theorem dS_start_74 : decode cS_start 74 = .ok (.getfield 22, 3) := by decide +kernel
theorem dS_start_77 : decode cS_start 77 = .ok (.ldc2_w 84, 3) := by decide +kernel
theorem dS_start_80 : decode cS_start 80 = .ok (.iload 7, 2) := by decide +kernel
theorem dS_start_82 : decode cS_start 82 = .ok (.iload 8, 2) := by decide +kernel
theorem dS_start_84 : decode cS_start 84 = .ok (.invokevirtual 80, 3) := by decide +kernel
theorem dS_start_87 : decode cS_start 87 = .ok (.aload_n 0, 1) := by decide +kernel
theorem dS_start_88 : decode cS_start 88 = .ok (.getfield 19, 3) := by decide +kernel
theorem dS_start_91 : decode cS_start 91 = .ok (.iload 4, 2) := by decide +kernel
theorem dS_start_93 : decode cS_start 93 = .ok (.ifCond .eq 7, 3) := by decide +kernel
theorem dS_start_96 : decode cS_start 96 = .ok (.lconst 1, 1) := by decide +kernel
theorem dS_start_97 : decode cS_start 97 = .ok (.goto 6, 3) := by decide +kernel
theorem dS_start_100 : decode cS_start 100 = .ok (.ldc2_w 84, 3) := by decide +kernel
theorem dS_start_103 : decode cS_start 103 = .ok (.iload 7, 2) := by decide +kernel
theorem dS_start_105 : decode cS_start 105 = .ok (.iload 8, 2) := by decide +kernel
theorem dS_start_107 : decode cS_start 107 = .ok (.invokevirtual 80, 3) := by decide +kernel
theorem dS_start_110 : decode cS_start 110 = .ok (.aload_n 0, 1) := by decide +kernel
theorem dS_start_111 : decode cS_start 111 = .ok (.getfield 10, 3) := by decide +kernel
theorem dS_start_114 : decode cS_start 114 = .ok (.lconst 1, 1) := by decide +kernel
theorem dS_start_115 : decode cS_start 115 = .ok (.aload_n 0, 1) := by decide +kernel
theorem dS_start_116 : decode cS_start 116 = .ok (.getfield 36, 3) := by decide +kernel
theorem dS_start_119 : decode cS_start 119 = .ok (.iconst 0, 1) := by decide +kernel
theorem dS_start_120 : decode cS_start 120 = .ok (.invokestatic 72, 3) := by decide +kernel
theorem dS_start_123 : decode cS_start 123 = .ok (.aload_n 0, 1) := by decide +kernel
theorem dS_start_124 : decode cS_start 124 = .ok (.getfield 36, 3) := by decide +kernel
theorem dS_start_127 : decode cS_start 127 = .ok (.iload 5, 2) := by decide +kernel
theorem dS_start_129 : decode cS_start 129 = .ok (.isub, 1) := by decide +kernel
theorem dS_start_130 : decode cS_start 130 = .ok (.iconst 0, 1) := by decide +kernel
theorem dS_start_131 : decode cS_start 131 = .ok (.invokestatic 72, 3) := by decide +kernel
theorem dS_start_134 : decode cS_start 134 = .ok (.invokevirtual 80, 3) := by decide +kernel
theorem dS_start_137 : decode cS_start 137 = .ok (.aload_n 0, 1) := by decide +kernel
theorem dS_start_138 : decode cS_start 138 = .ok (.getfield 16, 3) := by decide +kernel
theorem dS_start_141 : decode cS_start 141 = .ok (.aload_n 0, 1) := by decide +kernel
theorem dS_start_142 : decode cS_start 142 = .ok (.getfield 10, 3) := by decide +kernel
theorem dS_start_145 : decode cS_start 145 = .ok (.invokevirtual 86, 3) := by decide +kernel
theorem dS_start_148 : decode cS_start 148 = .ok (.ifCond .lt 22, 3) := by decide +kernel
theorem dS_start_151 : decode cS_start 151 = .ok (.aload_n 0, 1) := by decide +kernel
theorem dS_start_152 : decode cS_start 152 = .ok (.dup, 1) := by decide +kernel
theorem dS_start_153 : decode cS_start 153 = .ok (.getfield 36, 3) := by decide +kernel
theorem dS_start_156 : decode cS_start 156 = .ok (.iconst 1, 1) := by decide +kernel
theorem dS_start_157 : decode cS_start 157 = .ok (.iadd, 1) := by decide +kernel
theorem dS_start_158 : decode cS_start 158 = .ok (.putfield 36, 3) := by decide +kernel
theorem dS_start_161 : decode cS_start 161 = .ok (.aload_n 0, 1) := by decide +kernel
theorem dS_start_162 : decode cS_start 162 = .ok (.getfield 10, 3) := by decide +kernel
theorem dS_start_165 : decode cS_start 165 = .ok (.bipush 10, 2) := by decide +kernel
theorem dS_start_167 : decode cS_start 167 = .ok (.invokevirtual 90, 3) := by decide +kernel
theorem dS_start_170 : decode cS_start 170 = .ok (.return_, 1) := by decide +kernel
theorem dJL_numberOfLeadingZeros_0 : decode cJL_numberOfLeadingZeros 0 = .ok (.lload_n 0, 1) := by decide +kernel
theorem dJL_numberOfLeadingZeros_1 : decode cJL_numberOfLeadingZeros 1 = .ok (.bipush 32, 2) := by decide +kernel
theorem dJL_numberOfLeadingZeros_3 : decode cJL_numberOfLeadingZeros 3 = .ok (.lushr, 1) := by decide +kernel
theorem dJL_numberOfLeadingZeros_4 : decode cJL_numberOfLeadingZeros 4 = .ok (.l2i, 1) := by decide +kernel
theorem dJL_numberOfLeadingZeros_5 : decode cJL_numberOfLeadingZeros 5 = .ok (.istore_n 2, 1) := by decide +kernel
theorem dJL_numberOfLeadingZeros_6 : decode cJL_numberOfLeadingZeros 6 = .ok (.iload_n 2, 1) := by decide +kernel
theorem dJL_numberOfLeadingZeros_7 : decode cJL_numberOfLeadingZeros 7 = .ok (.ifCond .ne 14, 3) := by decide +kernel
theorem dJL_numberOfLeadingZeros_10 : decode cJL_numberOfLeadingZeros 10 = .ok (.bipush 32, 2) := by decide +kernel
theorem dJL_numberOfLeadingZeros_12 : decode cJL_numberOfLeadingZeros 12 = .ok (.lload_n 0, 1) := by decide +kernel
theorem dJL_numberOfLeadingZeros_13 : decode cJL_numberOfLeadingZeros 13 = .ok (.l2i, 1) := by decide +kernel
theorem dJL_numberOfLeadingZeros_14 : decode cJL_numberOfLeadingZeros 14 = .ok (.invokestatic 308, 3) := by decide +kernel
theorem dJL_numberOfLeadingZeros_17 : decode cJL_numberOfLeadingZeros 17 = .ok (.iadd, 1) := by decide +kernel
theorem dJL_numberOfLeadingZeros_18 : decode cJL_numberOfLeadingZeros 18 = .ok (.goto 7, 3) := by decide +kernel
theorem dJL_numberOfLeadingZeros_21 : decode cJL_numberOfLeadingZeros 21 = .ok (.iload_n 2, 1) := by decide +kernel
theorem dJL_numberOfLeadingZeros_22 : decode cJL_numberOfLeadingZeros 22 = .ok (.invokestatic 308, 3) := by decide +kernel
theorem dJL_numberOfLeadingZeros_25 : decode cJL_numberOfLeadingZeros 25 = .ok (.ireturn, 1) := by decide +kernel
theorem dJI_numberOfLeadingZeros_0 : decode cJI_numberOfLeadingZeros 0 = .ok (.iload_n 0, 1) := by decide +kernel
theorem dJI_numberOfLeadingZeros_1 : decode cJI_numberOfLeadingZeros 1 = .ok (.ifCond .gt 14, 3) := by decide +kernel
theorem dJI_numberOfLeadingZeros_4 : decode cJI_numberOfLeadingZeros 4 = .ok (.iload_n 0, 1) := by decide +kernel
theorem dJI_numberOfLeadingZeros_5 : decode cJI_numberOfLeadingZeros 5 = .ok (.ifCond .ne 8, 3) := by decide +kernel
theorem dJI_numberOfLeadingZeros_8 : decode cJI_numberOfLeadingZeros 8 = .ok (.bipush 32, 2) := by decide +kernel
theorem dJI_numberOfLeadingZeros_10 : decode cJI_numberOfLeadingZeros 10 = .ok (.goto 4, 3) := by decide +kernel
theorem dJI_numberOfLeadingZeros_13 : decode cJI_numberOfLeadingZeros 13 = .ok (.iconst 0, 1) := by decide +kernel
theorem dJI_numberOfLeadingZeros_14 : decode cJI_numberOfLeadingZeros 14 = .ok (.ireturn, 1) := by decide +kernel
theorem dJI_numberOfLeadingZeros_15 : decode cJI_numberOfLeadingZeros 15 = .ok (.bipush 31, 2) := by decide +kernel
theorem dJI_numberOfLeadingZeros_17 : decode cJI_numberOfLeadingZeros 17 = .ok (.istore_n 1, 1) := by decide +kernel
theorem dJI_numberOfLeadingZeros_18 : decode cJI_numberOfLeadingZeros 18 = .ok (.iload_n 0, 1) := by decide +kernel
theorem dJI_numberOfLeadingZeros_19 : decode cJI_numberOfLeadingZeros 19 = .ok (.ldc_w 264, 3) := by decide +kernel
theorem dJI_numberOfLeadingZeros_22 : decode cJI_numberOfLeadingZeros 22 = .ok (.if_icmp .lt 11, 3) := by decide +kernel
theorem dJI_numberOfLeadingZeros_25 : decode cJI_numberOfLeadingZeros 25 = .ok (.iinc 1 (-16), 3) := by decide +kernel
theorem dJI_numberOfLeadingZeros_28 : decode cJI_numberOfLeadingZeros 28 = .ok (.iload_n 0, 1) := by decide +kernel
theorem dJI_numberOfLeadingZeros_29 : decode cJI_numberOfLeadingZeros 29 = .ok (.bipush 16, 2) := by decide +kernel
theorem dJI_numberOfLeadingZeros_31 : decode cJI_numberOfLeadingZeros 31 = .ok (.iushr, 1) := by decide +kernel
theorem dJI_numberOfLeadingZeros_32 : decode cJI_numberOfLeadingZeros 32 = .ok (.istore_n 0, 1) := by decide +kernel
theorem dJI_numberOfLeadingZeros_33 : decode cJI_numberOfLeadingZeros 33 = .ok (.iload_n 0, 1) := by decide +kernel
theorem dJI_numberOfLeadingZeros_34 : decode cJI_numberOfLeadingZeros 34 = .ok (.sipush 256, 3) := by decide +kernel
theorem dJI_numberOfLeadingZeros_37 : decode cJI_numberOfLeadingZeros 37 = .ok (.if_icmp .lt 11, 3) := by decide +kernel
theorem dJI_numberOfLeadingZeros_40 : decode cJI_numberOfLeadingZeros 40 = .ok (.iinc 1 (-8), 3) := by decide +kernel
theorem dJI_numberOfLeadingZeros_43 : decode cJI_numberOfLeadingZeros 43 = .ok (.iload_n 0, 1) := by decide +kernel
theorem dJI_numberOfLeadingZeros_44 : decode cJI_numberOfLeadingZeros 44 = .ok (.bipush 8, 2) := by decide +kernel
theorem dJI_numberOfLeadingZeros_46 : decode cJI_numberOfLeadingZeros 46 = .ok (.iushr, 1) := by decide +kernel
theorem dJI_numberOfLeadingZeros_47 : decode cJI_numberOfLeadingZeros 47 = .ok (.istore_n 0, 1) := by decide +kernel
theorem dJI_numberOfLeadingZeros_48 : decode cJI_numberOfLeadingZeros 48 = .ok (.iload_n 0, 1) := by decide +kernel
theorem dJI_numberOfLeadingZeros_49 : decode cJI_numberOfLeadingZeros 49 = .ok (.bipush 16, 2) := by decide +kernel
theorem dJI_numberOfLeadingZeros_51 : decode cJI_numberOfLeadingZeros 51 = .ok (.if_icmp .lt 10, 3) := by decide +kernel
theorem dJI_numberOfLeadingZeros_54 : decode cJI_numberOfLeadingZeros 54 = .ok (.iinc 1 (-4), 3) := by decide +kernel
theorem dJI_numberOfLeadingZeros_57 : decode cJI_numberOfLeadingZeros 57 = .ok (.iload_n 0, 1) := by decide +kernel
theorem dJI_numberOfLeadingZeros_58 : decode cJI_numberOfLeadingZeros 58 = .ok (.iconst 4, 1) := by decide +kernel
theorem dJI_numberOfLeadingZeros_59 : decode cJI_numberOfLeadingZeros 59 = .ok (.iushr, 1) := by decide +kernel
theorem dJI_numberOfLeadingZeros_60 : decode cJI_numberOfLeadingZeros 60 = .ok (.istore_n 0, 1) := by decide +kernel
theorem dJI_numberOfLeadingZeros_61 : decode cJI_numberOfLeadingZeros 61 = .ok (.iload_n 0, 1) := by decide +kernel
theorem dJI_numberOfLeadingZeros_62 : decode cJI_numberOfLeadingZeros 62 = .ok (.iconst 4, 1) := by decide +kernel
theorem dJI_numberOfLeadingZeros_63 : decode cJI_numberOfLeadingZeros 63 = .ok (.if_icmp .lt 10, 3) := by decide +kernel
theorem dJI_numberOfLeadingZeros_66 : decode cJI_numberOfLeadingZeros 66 = .ok (.iinc 1 (-2), 3) := by decide +kernel
theorem dJI_numberOfLeadingZeros_69 : decode cJI_numberOfLeadingZeros 69 = .ok (.iload_n 0, 1) := by decide +kernel
theorem dJI_numberOfLeadingZeros_70 : decode cJI_numberOfLeadingZeros 70 = .ok (.iconst 2, 1) := by decide +kernel
theorem dJI_numberOfLeadingZeros_71 : decode cJI_numberOfLeadingZeros 71 = .ok (.iushr, 1) := by decide +kernel
theorem dJI_numberOfLeadingZeros_72 : decode cJI_numberOfLeadingZeros 72 = .ok (.istore_n 0, 1) := by decide +kernel
theorem dJI_numberOfLeadingZeros_73 : decode cJI_numberOfLeadingZeros 73 = .ok (.iload_n 1, 1) := by decide +kernel
theorem dJI_numberOfLeadingZeros_74 : decode cJI_numberOfLeadingZeros 74 = .ok (.iload_n 0, 1) := by decide +kernel
theorem dJI_numberOfLeadingZeros_75 : decode cJI_numberOfLeadingZeros 75 = .ok (.iconst 1, 1) := by decide +kernel
theorem dJI_numberOfLeadingZeros_76 : decode cJI_numberOfLeadingZeros 76 = .ok (.iushr, 1) := by decide +kernel
theorem dJI_numberOfLeadingZeros_77 : decode cJI_numberOfLeadingZeros 77 = .ok (.isub, 1) := by decide +kernel
theorem dJI_numberOfLeadingZeros_78 : decode cJI_numberOfLeadingZeros 78 = .ok (.ireturn, 1) := by decide +kernel
theorem dJM_max_0 : decode cJM_max 0 = .ok (.iload_n 0, 1) := by decide +kernel
theorem dJM_max_1 : decode cJM_max 1 = .ok (.iload_n 1, 1) := by decide +kernel
theorem dJM_max_2 : decode cJM_max 2 = .ok (.if_icmp .lt 7, 3) := by decide +kernel
theorem dJM_max_5 : decode cJM_max 5 = .ok (.iload_n 0, 1) := by decide +kernel
theorem dJM_max_6 : decode cJM_max 6 = .ok (.goto 4, 3) := by decide +kernel
theorem dJM_max_9 : decode cJM_max 9 = .ok (.iload_n 1, 1) := by decide +kernel
theorem dJM_max_10 : decode cJM_max 10 = .ok (.ireturn, 1) := by decide +kernel
theorem dN_setProduct_0 : decode cN_setProduct 0 = .ok (.aload_n 0, 1) := by decide +kernel
theorem dN_setProduct_1 : decode cN_setProduct 1 = .ok (.invokevirtual 17, 3) := by decide +kernel
theorem dN_setProduct_4 : decode cN_setProduct 4 = .ok (.iload 4, 2) := by decide +kernel
theorem dN_setProduct_6 : decode cN_setProduct 6 = .ok (.bipush 32, 2) := by decide +kernel
theorem dN_setProduct_8 : decode cN_setProduct 8 = .ok (.idiv, 1) := by decide +kernel
theorem dN_setProduct_9 : decode cN_setProduct 9 = .ok (.bipush 26, 2) := by decide +kernel
theorem dN_setProduct_11 : decode cN_setProduct 11 = .ok (.invokestatic 20, 3) := by decide +kernel
theorem dN_setProduct_14 : decode cN_setProduct 14 = .ok (.istore 5, 2) := by decide +kernel
theorem dN_setProduct_16 : decode cN_setProduct 16 = .ok (.aload_n 0, 1) := by decide +kernel
theorem dN_setProduct_17 : decode cN_setProduct 17 = .ok (.getfield 9, 3) := by decide +kernel
theorem dN_setProduct_20 : decode cN_setProduct 20 = .ok (.iload 5, 2) := by decide +kernel
theorem dN_setProduct_22 : decode cN_setProduct 22 = .ok (.lload_n 1, 1) := by decide +kernel
theorem dN_setProduct_23 : decode cN_setProduct 23 = .ok (.l2i, 1) := by decide +kernel
theorem dN_setProduct_24 : decode cN_setProduct 24 = .ok (.iastore, 1) := by decide +kernel
theorem dN_setProduct_25 : decode cN_setProduct 25 = .ok (.aload_n 0, 1) := by decide +kernel
theorem dN_setProduct_26 : decode cN_setProduct 26 = .ok (.getfield 9, 3) := by decide +kernel
theorem dN_setProduct_29 : decode cN_setProduct 29 = .ok (.iload 5, 2) := by decide +kernel
theorem dN_setProduct_31 : decode cN_setProduct 31 = .ok (.iconst 1, 1) := by decide +kernel
theorem dN_setProduct_32 : decode cN_setProduct 32 = .ok (.iadd, 1) := by decide +kernel
theorem dN_setProduct_33 : decode cN_setProduct 33 = .ok (.lload_n 1, 1) := by decide +kernel
theorem dN_setProduct_34 : decode cN_setProduct 34 = .ok (.bipush 32, 2) := by decide +kernel
theorem dN_setProduct_36 : decode cN_setProduct 36 = .ok (.lushr, 1) := by decide +kernel
theorem dN_setProduct_37 : decode cN_setProduct 37 = .ok (.l2i, 1) := by decide +kernel
theorem dN_setProduct_38 : decode cN_setProduct 38 = .ok (.iastore, 1) := by decide +kernel
theorem dN_setProduct_39 : decode cN_setProduct 39 = .ok (.aload_n 0, 1) := by decide +kernel
theorem dN_setProduct_40 : decode cN_setProduct 40 = .ok (.iload 5, 2) := by decide +kernel
theorem dN_setProduct_42 : decode cN_setProduct 42 = .ok (.iconst 2, 1) := by decide +kernel
theorem dN_setProduct_43 : decode cN_setProduct 43 = .ok (.iadd, 1) := by decide +kernel
theorem dN_setProduct_44 : decode cN_setProduct 44 = .ok (.putfield 13, 3) := by decide +kernel
theorem dN_setProduct_47 : decode cN_setProduct 47 = .ok (.iload 4, 2) := by decide +kernel
theorem dN_setProduct_49 : decode cN_setProduct 49 = .ok (.bipush 32, 2) := by decide +kernel
theorem dN_setProduct_51 : decode cN_setProduct 51 = .ok (.irem, 1) := by decide +kernel
theorem dN_setProduct_52 : decode cN_setProduct 52 = .ok (.istore 6, 2) := by decide +kernel
theorem dN_setProduct_54 : decode cN_setProduct 54 = .ok (.aload_n 0, 1) := by decide +kernel
theorem dN_setProduct_55 : decode cN_setProduct 55 = .ok (.iconst 1, 1) := by decide +kernel
theorem dN_setProduct_56 : decode cN_setProduct 56 = .ok (.iload 6, 2) := by decide +kernel
theorem dN_setProduct_58 : decode cN_setProduct 58 = .ok (.iconst 2, 1) := by decide +kernel
theorem dN_setProduct_59 : decode cN_setProduct 59 = .ok (.idiv, 1) := by decide +kernel
theorem dN_setProduct_60 : decode cN_setProduct 60 = .ok (.ishl, 1) := by decide +kernel
theorem dN_setProduct_61 : decode cN_setProduct 61 = .ok (.invokevirtual 26, 3) := by decide +kernel
theorem dN_setProduct_64 : decode cN_setProduct 64 = .ok (.aload_n 0, 1) := by decide +kernel
theorem dN_setProduct_65 : decode cN_setProduct 65 = .ok (.iconst 1, 1) := by decide +kernel
theorem dN_setProduct_66 : decode cN_setProduct 66 = .ok (.iload 6, 2) := by decide +kernel
theorem dN_setProduct_68 : decode cN_setProduct 68 = .ok (.iload 6, 2) := by decide +kernel
theorem dN_setProduct_70 : decode cN_setProduct 70 = .ok (.iconst 2, 1) := by decide +kernel
theorem dN_setProduct_71 : decode cN_setProduct 71 = .ok (.idiv, 1) := by decide +kernel
theorem dN_setProduct_72 : decode cN_setProduct 72 = .ok (.isub, 1) := by decide +kernel
theorem dN_setProduct_73 : decode cN_setProduct 73 = .ok (.ishl, 1) := by decide +kernel
theorem dN_setProduct_74 : decode cN_setProduct 74 = .ok (.invokevirtual 26, 3) := by decide +kernel
theorem dN_setProduct_77 : decode cN_setProduct 77 = .ok (.iload_n 3, 1) := by decide +kernel
theorem dN_setProduct_78 : decode cN_setProduct 78 = .ok (.istore 7, 2) := by decide +kernel
theorem dN_setProduct_80 : decode cN_setProduct 80 = .ok (.iload 7, 2) := by decide +kernel
theorem dN_setProduct_82 : decode cN_setProduct 82 = .ok (.bipush 13, 2) := by decide +kernel
theorem dN_setProduct_84 : decode cN_setProduct 84 = .ok (.if_icmp .lt 15, 3) := by decide +kernel
theorem dN_setProduct_87 : decode cN_setProduct 87 = .ok (.aload_n 0, 1) := by decide +kernel
theorem dN_setProduct_88 : decode cN_setProduct 88 = .ok (.ldc 30, 2) := by decide +kernel
theorem dN_setProduct_90 : decode cN_setProduct 90 = .ok (.invokevirtual 26, 3) := by decide +kernel
theorem dN_setProduct_93 : decode cN_setProduct 93 = .ok (.iinc 7 (-13), 3) := by decide +kernel
theorem dN_setProduct_96 : decode cN_setProduct 96 = .ok (.goto (-16), 3) := by decide +kernel
theorem dN_setProduct_99 : decode cN_setProduct 99 = .ok (.iconst 1, 1) := by decide +kernel
theorem dN_setProduct_100 : decode cN_setProduct 100 = .ok (.istore 8, 2) := by decide +kernel
theorem dN_setProduct_102 : decode cN_setProduct 102 = .ok (.iload 7, 2) := by decide +kernel
theorem dN_setProduct_104 : decode cN_setProduct 104 = .ok (.ifCond .le 15, 3) := by decide +kernel
theorem dN_setProduct_107 : decode cN_setProduct 107 = .ok (.iload 8, 2) := by decide +kernel
theorem dN_setProduct_109 : decode cN_setProduct 109 = .ok (.iconst 5, 1) := by decide +kernel
theorem dN_setProduct_110 : decode cN_setProduct 110 = .ok (.imul, 1) := by decide +kernel
theorem dN_setProduct_111 : decode cN_setProduct 111 = .ok (.istore 8, 2) := by decide +kernel
theorem dN_setProduct_113 : decode cN_setProduct 113 = .ok (.iinc 7 (-1), 3) := by decide +kernel
theorem dN_setProduct_116 : decode cN_setProduct 116 = .ok (.goto (-14), 3) := by decide +kernel
theorem dN_setProduct_119 : decode cN_setProduct 119 = .ok (.aload_n 0, 1) := by decide +kernel
theorem dN_setProduct_120 : decode cN_setProduct 120 = .ok (.iload 8, 2) := by decide +kernel
theorem dN_setProduct_122 : decode cN_setProduct 122 = .ok (.invokevirtual 26, 3) := by decide +kernel
theorem dN_setProduct_125 : decode cN_setProduct 125 = .ok (.return_, 1) := by decide +kernel
theorem dN_clear_0 : decode cN_clear 0 = .ok (.iconst 0, 1) := by decide +kernel
theorem dN_clear_1 : decode cN_clear 1 = .ok (.istore_n 1, 1) := by decide +kernel
theorem dN_clear_2 : decode cN_clear 2 = .ok (.iload_n 1, 1) := by decide +kernel
theorem dN_clear_3 : decode cN_clear 3 = .ok (.aload_n 0, 1) := by decide +kernel
theorem dN_clear_4 : decode cN_clear 4 = .ok (.getfield 13, 3) := by decide +kernel
theorem dN_clear_7 : decode cN_clear 7 = .ok (.if_icmp .ge 16, 3) := by decide +kernel
theorem dN_clear_10 : decode cN_clear 10 = .ok (.aload_n 0, 1) := by decide +kernel
theorem dN_clear_11 : decode cN_clear 11 = .ok (.getfield 9, 3) := by decide +kernel
theorem dN_clear_14 : decode cN_clear 14 = .ok (.iload_n 1, 1) := by decide +kernel
theorem dN_clear_15 : decode cN_clear 15 = .ok (.iconst 0, 1) := by decide +kernel
theorem dN_clear_16 : decode cN_clear 16 = .ok (.iastore, 1) := by decide +kernel
theorem dN_clear_17 : decode cN_clear 17 = .ok (.iinc 1 1, 3) := by decide +kernel
theorem dN_clear_20 : decode cN_clear 20 = .ok (.goto (-18), 3) := by decide +kernel
theorem dN_clear_23 : decode cN_clear 23 = .ok (.aload_n 0, 1) := by decide +kernel
theorem dN_clear_24 : decode cN_clear 24 = .ok (.iconst 0, 1) := by decide +kernel
theorem dN_clear_25 : decode cN_clear 25 = .ok (.putfield 13, 3) := by decide +kernel
theorem dN_clear_28 : decode cN_clear 28 = .ok (.return_, 1) := by decide +kernel
theorem dJM_min_0 : decode cJM_min 0 = .ok (.iload_n 0, 1) := by decide +kernel
theorem dJM_min_1 : decode cJM_min 1 = .ok (.iload_n 1, 1) := by decide +kernel
theorem dJM_min_2 : decode cJM_min 2 = .ok (.if_icmp .gt 7, 3) := by decide +kernel
theorem dJM_min_5 : decode cJM_min 5 = .ok (.iload_n 0, 1) := by decide +kernel
theorem dJM_min_6 : decode cJM_min 6 = .ok (.goto 4, 3) := by decide +kernel
theorem dJM_min_9 : decode cJM_min 9 = .ok (.iload_n 1, 1) := by decide +kernel
theorem dJM_min_10 : decode cJM_min 10 = .ok (.ireturn, 1) := by decide +kernel
theorem dN_multiply_0 : decode cN_multiply 0 = .ok (.lconst 0, 1) := by decide +kernel
theorem dN_multiply_1 : decode cN_multiply 1 = .ok (.lstore_n 2, 1) := by decide +kernel
theorem dN_multiply_2 : decode cN_multiply 2 = .ok (.iconst 0, 1) := by decide +kernel
theorem dN_multiply_3 : decode cN_multiply 3 = .ok (.istore 4, 2) := by decide +kernel
theorem dN_multiply_5 : decode cN_multiply 5 = .ok (.iload 4, 2) := by decide +kernel
theorem dN_multiply_7 : decode cN_multiply 7 = .ok (.aload_n 0, 1) := by decide +kernel
theorem dN_multiply_8 : decode cN_multiply 8 = .ok (.getfield 13, 3) := by decide +kernel
theorem dN_multiply_11 : decode cN_multiply 11 = .ok (.if_icmp .ge 41, 3) := by decide +kernel
theorem dN_multiply_14 : decode cN_multiply 14 = .ok (.lload_n 2, 1) := by decide +kernel
theorem dN_multiply_15 : decode cN_multiply 15 = .ok (.aload_n 0, 1) := by decide +kernel
theorem dN_multiply_16 : decode cN_multiply 16 = .ok (.getfield 9, 3) := by decide +kernel
theorem dN_multiply_19 : decode cN_multiply 19 = .ok (.iload 4, 2) := by decide +kernel
theorem dN_multiply_21 : decode cN_multiply 21 = .ok (.iaload, 1) := by decide +kernel
theorem dN_multiply_22 : decode cN_multiply 22 = .ok (.i2l, 1) := by decide +kernel
theorem dN_multiply_23 : decode cN_multiply 23 = .ok (.ldc2_w 31, 3) := by decide +kernel
theorem dN_multiply_26 : decode cN_multiply 26 = .ok (.land, 1) := by decide +kernel
theorem dN_multiply_27 : decode cN_multiply 27 = .ok (.iload_n 1, 1) := by decide +kernel
theorem dN_multiply_28 : decode cN_multiply 28 = .ok (.i2l, 1) := by decide +kernel
theorem dN_multiply_29 : decode cN_multiply 29 = .ok (.lmul, 1) := by decide +kernel
theorem dN_multiply_30 : decode cN_multiply 30 = .ok (.ladd, 1) := by decide +kernel
theorem dN_multiply_31 : decode cN_multiply 31 = .ok (.lstore_n 2, 1) := by decide +kernel
theorem dN_multiply_32 : decode cN_multiply 32 = .ok (.aload_n 0, 1) := by decide +kernel
theorem dN_multiply_33 : decode cN_multiply 33 = .ok (.getfield 9, 3) := by decide +kernel
theorem dN_multiply_36 : decode cN_multiply 36 = .ok (.iload 4, 2) := by decide +kernel
theorem dN_multiply_38 : decode cN_multiply 38 = .ok (.lload_n 2, 1) := by decide +kernel
theorem dN_multiply_39 : decode cN_multiply 39 = .ok (.l2i, 1) := by decide +kernel
theorem dN_multiply_40 : decode cN_multiply 40 = .ok (.iastore, 1) := by decide +kernel
theorem dN_multiply_41 : decode cN_multiply 41 = .ok (.lload_n 2, 1) := by decide +kernel
theorem dN_multiply_42 : decode cN_multiply 42 = .ok (.bipush 32, 2) := by decide +kernel
theorem dN_multiply_44 : decode cN_multiply 44 = .ok (.lushr, 1) := by decide +kernel
theorem dN_multiply_45 : decode cN_multiply 45 = .ok (.lstore_n 2, 1) := by decide +kernel
theorem dN_multiply_46 : decode cN_multiply 46 = .ok (.iinc 4 1, 3) := by decide +kernel
theorem dN_multiply_49 : decode cN_multiply 49 = .ok (.goto (-44), 3) := by decide +kernel
theorem dN_multiply_52 : decode cN_multiply 52 = .ok (.aload_n 0, 1) := by decide +kernel
theorem dN_multiply_53 : decode cN_multiply 53 = .ok (.lload_n 2, 1) := by decide +kernel
theorem dN_multiply_54 : decode cN_multiply 54 = .ok (.l2i, 1) := by decide +kernel
theorem dN_multiply_55 : decode cN_multiply 55 = .ok (.invokevirtual 33, 3) := by decide +kernel
theorem dN_multiply_58 : decode cN_multiply 58 = .ok (.return_, 1) := by decide +kernel
theorem dN_append_0 : decode cN_append 0 = .ok (.iload_n 1, 1) := by decide +kernel
theorem dN_append_1 : decode cN_append 1 = .ok (.ifCond .eq 32, 3) := by decide +kernel
theorem dN_append_4 : decode cN_append 4 = .ok (.aload_n 0, 1) := by decide +kernel
theorem dN_append_5 : decode cN_append 5 = .ok (.getfield 13, 3) := by decide +kernel
theorem dN_append_8 : decode cN_append 8 = .ok (.bipush 28, 2) := by decide +kernel
theorem dN_append_10 : decode cN_append 10 = .ok (.if_icmp .ge 23, 3) := by decide +kernel
theorem dN_append_13 : decode cN_append 13 = .ok (.aload_n 0, 1) := by decide +kernel
theorem dN_append_14 : decode cN_append 14 = .ok (.getfield 9, 3) := by decide +kernel
theorem dN_append_17 : decode cN_append 17 = .ok (.aload_n 0, 1) := by decide +kernel
theorem dN_append_18 : decode cN_append 18 = .ok (.getfield 13, 3) := by decide +kernel
theorem dN_append_21 : decode cN_append 21 = .ok (.iload_n 1, 1) := by decide +kernel
theorem dN_append_22 : decode cN_append 22 = .ok (.iastore, 1) := by decide +kernel
theorem dN_append_23 : decode cN_append 23 = .ok (.aload_n 0, 1) := by decide +kernel
theorem dN_append_24 : decode cN_append 24 = .ok (.dup, 1) := by decide +kernel
theorem dN_append_25 : decode cN_append 25 = .ok (.getfield 13, 3) := by decide +kernel
theorem dN_append_28 : decode cN_append 28 = .ok (.iconst 1, 1) := by decide +kernel
theorem dN_append_29 : decode cN_append 29 = .ok (.iadd, 1) := by decide +kernel
theorem dN_append_30 : decode cN_append 30 = .ok (.putfield 13, 3) := by decide +kernel
theorem dN_append_33 : decode cN_append 33 = .ok (.return_, 1) := by decide +kernel
theorem dN_compare_0 : decode cN_compare 0 = .ok (.aload_n 0, 1) := by decide +kernel
theorem dN_compare_1 : decode cN_compare 1 = .ok (.getfield 13, 3) := by decide +kernel
theorem dN_compare_4 : decode cN_compare 4 = .ok (.aload_n 1, 1) := by decide +kernel
theorem dN_compare_5 : decode cN_compare 5 = .ok (.getfield 13, 3) := by decide +kernel
theorem dN_compare_8 : decode cN_compare 8 = .ok (.invokestatic 36, 3) := by decide +kernel
theorem dN_compare_11 : decode cN_compare 11 = .ok (.iconst 1, 1) := by decide +kernel
theorem dN_compare_12 : decode cN_compare 12 = .ok (.isub, 1) := by decide +kernel
theorem dN_compare_13 : decode cN_compare 13 = .ok (.istore_n 2, 1) := by decide +kernel
theorem dN_compare_14 : decode cN_compare 14 = .ok (.iload_n 2, 1) := by decide +kernel
theorem dN_compare_15 : decode cN_compare 15 = .ok (.ifCond .lt 41, 3) := by decide +kernel
theorem dN_compare_18 : decode cN_compare 18 = .ok (.aload_n 0, 1) := by decide +kernel
theorem dN_compare_19 : decode cN_compare 19 = .ok (.getfield 9, 3) := by decide +kernel
theorem dN_compare_22 : decode cN_compare 22 = .ok (.iload_n 2, 1) := by decide +kernel
theorem dN_compare_23 : decode cN_compare 23 = .ok (.iaload, 1) := by decide +kernel
theorem dN_compare_24 : decode cN_compare 24 = .ok (.i2l, 1) := by decide +kernel
theorem dN_compare_25 : decode cN_compare 25 = .ok (.ldc2_w 31, 3) := by decide +kernel
theorem dN_compare_28 : decode cN_compare 28 = .ok (.land, 1) := by decide +kernel
theorem dN_compare_29 : decode cN_compare 29 = .ok (.aload_n 1, 1) := by decide +kernel
theorem dN_compare_30 : decode cN_compare 30 = .ok (.getfield 9, 3) := by decide +kernel
theorem dN_compare_33 : decode cN_compare 33 = .ok (.iload_n 2, 1) := by decide +kernel
theorem dN_compare_34 : decode cN_compare 34 = .ok (.iaload, 1) := by decide +kernel
theorem dN_compare_35 : decode cN_compare 35 = .ok (.i2l, 1) := by decide +kernel
theorem dN_compare_36 : decode cN_compare 36 = .ok (.ldc2_w 31, 3) := by decide +kernel
theorem dN_compare_39 : decode cN_compare 39 = .ok (.land, 1) := by decide +kernel
theorem dN_compare_40 : decode cN_compare 40 = .ok (.invokestatic 39, 3) := by decide +kernel
theorem dN_compare_43 : decode cN_compare 43 = .ok (.istore_n 3, 1) := by decide +kernel
theorem dN_compare_44 : decode cN_compare 44 = .ok (.iload_n 3, 1) := by decide +kernel
theorem dN_compare_45 : decode cN_compare 45 = .ok (.ifCond .eq 5, 3) := by decide +kernel
theorem dN_compare_48 : decode cN_compare 48 = .ok (.iload_n 3, 1) := by decide +kernel
theorem dN_compare_49 : decode cN_compare 49 = .ok (.ireturn, 1) := by decide +kernel
theorem dN_compare_50 : decode cN_compare 50 = .ok (.iinc 2 (-1), 3) := by decide +kernel
theorem dN_compare_53 : decode cN_compare 53 = .ok (.goto (-39), 3) := by decide +kernel
theorem dN_compare_56 : decode cN_compare 56 = .ok (.iconst 0, 1) := by decide +kernel
theorem dN_compare_57 : decode cN_compare 57 = .ok (.ireturn, 1) := by decide +kernel
theorem dJL_compare_0 : decode cJL_compare 0 = .ok (.lload_n 0, 1) := by decide +kernel
theorem dJL_compare_1 : decode cJL_compare 1 = .ok (.lload_n 2, 1) := by decide +kernel
theorem dJL_compare_2 : decode cJL_compare 2 = .ok (.lcmp, 1) := by decide +kernel
theorem dJL_compare_3 : decode cJL_compare 3 = .ok (.ifCond .ge 7, 3) := by decide +kernel
theorem dJL_compare_6 : decode cJL_compare 6 = .ok (.iconst (-1), 1) := by decide +kernel
theorem dJL_compare_7 : decode cJL_compare 7 = .ok (.goto 14, 3) := by decide +kernel
theorem dJL_compare_10 : decode cJL_compare 10 = .ok (.lload_n 0, 1) := by decide +kernel
theorem dJL_compare_11 : decode cJL_compare 11 = .ok (.lload_n 2, 1) := by decide +kernel
theorem dJL_compare_12 : decode cJL_compare 12 = .ok (.lcmp, 1) := by decide +kernel
theorem dJL_compare_13 : decode cJL_compare 13 = .ok (.ifCond .ne 7, 3) := by decide +kernel
theorem dJL_compare_16 : decode cJL_compare 16 = .ok (.iconst 0, 1) := by decide +kernel
theorem dJL_compare_17 : decode cJL_compare 17 = .ok (.goto 4, 3) := by decide +kernel
theorem dJL_compare_20 : decode cJL_compare 20 = .ok (.iconst 1, 1) := by decide +kernel
theorem dJL_compare_21 : decode cJL_compare 21 = .ok (.ireturn, 1) := by decide +kernel
theorem dS_nextDigit_0 : decode cS_nextDigit 0 = .ok (.aload_n 0, 1) := by decide +kernel
theorem dS_nextDigit_1 : decode cS_nextDigit 1 = .ok (.getfield 16, 3) := by decide +kernel
theorem dS_nextDigit_4 : decode cS_nextDigit 4 = .ok (.bipush 10, 2) := by decide +kernel
theorem dS_nextDigit_6 : decode cS_nextDigit 6 = .ok (.invokevirtual 90, 3) := by decide +kernel
theorem dS_nextDigit_9 : decode cS_nextDigit 9 = .ok (.aload_n 0, 1) := by decide +kernel
theorem dS_nextDigit_10 : decode cS_nextDigit 10 = .ok (.getfield 22, 3) := by decide +kernel
theorem dS_nextDigit_13 : decode cS_nextDigit 13 = .ok (.bipush 10, 2) := by decide +kernel
theorem dS_nextDigit_15 : decode cS_nextDigit 15 = .ok (.invokevirtual 90, 3) := by decide +kernel
theorem dS_nextDigit_18 : decode cS_nextDigit 18 = .ok (.aload_n 0, 1) := by decide +kernel
theorem dS_nextDigit_19 : decode cS_nextDigit 19 = .ok (.getfield 19, 3) := by decide +kernel
theorem dS_nextDigit_22 : decode cS_nextDigit 22 = .ok (.bipush 10, 2) := by decide +kernel
theorem dS_nextDigit_24 : decode cS_nextDigit 24 = .ok (.invokevirtual 90, 3) := by decide +kernel
theorem dS_nextDigit_27 : decode cS_nextDigit 27 = .ok (.iconst 0, 1) := by decide +kernel
theorem dS_nextDigit_28 : decode cS_nextDigit 28 = .ok (.istore_n 1, 1) := by decide +kernel
theorem dS_nextDigit_29 : decode cS_nextDigit 29 = .ok (.iload_n 1, 1) := by decide +kernel
theorem dS_nextDigit_30 : decode cS_nextDigit 30 = .ok (.bipush 9, 2) := by decide +kernel
theorem dS_nextDigit_32 : decode cS_nextDigit 32 = .ok (.if_icmp .ge 34, 3) := by decide +kernel
theorem dS_nextDigit_35 : decode cS_nextDigit 35 = .ok (.aload_n 0, 1) := by decide +kernel
theorem dS_nextDigit_36 : decode cS_nextDigit 36 = .ok (.getfield 16, 3) := by decide +kernel
theorem dS_nextDigit_39 : decode cS_nextDigit 39 = .ok (.aload_n 0, 1) := by decide +kernel
theorem dS_nextDigit_40 : decode cS_nextDigit 40 = .ok (.getfield 10, 3) := by decide +kernel
theorem dS_nextDigit_43 : decode cS_nextDigit 43 = .ok (.invokevirtual 86, 3) := by decide +kernel
theorem dS_nextDigit_46 : decode cS_nextDigit 46 = .ok (.ifCond .lt 20, 3) := by decide +kernel
theorem dS_nextDigit_49 : decode cS_nextDigit 49 = .ok (.aload_n 0, 1) := by decide +kernel
theorem dS_nextDigit_50 : decode cS_nextDigit 50 = .ok (.getfield 16, 3) := by decide +kernel
theorem dS_nextDigit_53 : decode cS_nextDigit 53 = .ok (.aload_n 0, 1) := by decide +kernel
theorem dS_nextDigit_54 : decode cS_nextDigit 54 = .ok (.getfield 10, 3) := by decide +kernel
theorem dS_nextDigit_57 : decode cS_nextDigit 57 = .ok (.invokevirtual 94, 3) := by decide +kernel
theorem dS_nextDigit_60 : decode cS_nextDigit 60 = .ok (.iinc 1 1, 3) := by decide +kernel
theorem dS_nextDigit_63 : decode cS_nextDigit 63 = .ok (.goto (-34), 3) := by decide +kernel
theorem dS_nextDigit_66 : decode cS_nextDigit 66 = .ok (.iload_n 1, 1) := by decide +kernel
theorem dS_nextDigit_67 : decode cS_nextDigit 67 = .ok (.ireturn, 1) := by decide +kernel
theorem dN_subtract_0 : decode cN_subtract 0 = .ok (.lconst 0, 1) := by decide +kernel
theorem dN_subtract_1 : decode cN_subtract 1 = .ok (.lstore_n 2, 1) := by decide +kernel
theorem dN_subtract_2 : decode cN_subtract 2 = .ok (.iconst 0, 1) := by decide +kernel
theorem dN_subtract_3 : decode cN_subtract 3 = .ok (.istore 4, 2) := by decide +kernel
theorem dN_subtract_5 : decode cN_subtract 5 = .ok (.iload 4, 2) := by decide +kernel
theorem dN_subtract_7 : decode cN_subtract 7 = .ok (.aload_n 0, 1) := by decide +kernel
theorem dN_subtract_8 : decode cN_subtract 8 = .ok (.getfield 13, 3) := by decide +kernel
theorem dN_subtract_11 : decode cN_subtract 11 = .ok (.if_icmp .ge 51, 3) := by decide +kernel
theorem dN_subtract_14 : decode cN_subtract 14 = .ok (.lload_n 2, 1) := by decide +kernel
theorem dN_subtract_15 : decode cN_subtract 15 = .ok (.aload_n 0, 1) := by decide +kernel
theorem dN_subtract_16 : decode cN_subtract 16 = .ok (.getfield 9, 3) := by decide +kernel
theorem dN_subtract_19 : decode cN_subtract 19 = .ok (.iload 4, 2) := by decide +kernel
theorem dN_subtract_21 : decode cN_subtract 21 = .ok (.iaload, 1) := by decide +kernel
theorem dN_subtract_22 : decode cN_subtract 22 = .ok (.i2l, 1) := by decide +kernel
theorem dN_subtract_23 : decode cN_subtract 23 = .ok (.ldc2_w 31, 3) := by decide +kernel
theorem dN_subtract_26 : decode cN_subtract 26 = .ok (.land, 1) := by decide +kernel
theorem dN_subtract_27 : decode cN_subtract 27 = .ok (.aload_n 1, 1) := by decide +kernel
theorem dN_subtract_28 : decode cN_subtract 28 = .ok (.getfield 9, 3) := by decide +kernel
theorem dN_subtract_31 : decode cN_subtract 31 = .ok (.iload 4, 2) := by decide +kernel
theorem dN_subtract_33 : decode cN_subtract 33 = .ok (.iaload, 1) := by decide +kernel
theorem dN_subtract_34 : decode cN_subtract 34 = .ok (.i2l, 1) := by decide +kernel
theorem dN_subtract_35 : decode cN_subtract 35 = .ok (.ldc2_w 31, 3) := by decide +kernel
theorem dN_subtract_38 : decode cN_subtract 38 = .ok (.land, 1) := by decide +kernel
theorem dN_subtract_39 : decode cN_subtract 39 = .ok (.lsub, 1) := by decide +kernel
theorem dN_subtract_40 : decode cN_subtract 40 = .ok (.ladd, 1) := by decide +kernel
theorem dN_subtract_41 : decode cN_subtract 41 = .ok (.lstore_n 2, 1) := by decide +kernel
theorem dN_subtract_42 : decode cN_subtract 42 = .ok (.aload_n 0, 1) := by decide +kernel
theorem dN_subtract_43 : decode cN_subtract 43 = .ok (.getfield 9, 3) := by decide +kernel
theorem dN_subtract_46 : decode cN_subtract 46 = .ok (.iload 4, 2) := by decide +kernel
theorem dN_subtract_48 : decode cN_subtract 48 = .ok (.lload_n 2, 1) := by decide +kernel
theorem dN_subtract_49 : decode cN_subtract 49 = .ok (.l2i, 1) := by decide +kernel
theorem dN_subtract_50 : decode cN_subtract 50 = .ok (.iastore, 1) := by decide +kernel
theorem dN_subtract_51 : decode cN_subtract 51 = .ok (.lload_n 2, 1) := by decide +kernel
theorem dN_subtract_52 : decode cN_subtract 52 = .ok (.bipush 32, 2) := by decide +kernel
theorem dN_subtract_54 : decode cN_subtract 54 = .ok (.lshr, 1) := by decide +kernel
theorem dN_subtract_55 : decode cN_subtract 55 = .ok (.lstore_n 2, 1) := by decide +kernel
theorem dN_subtract_56 : decode cN_subtract 56 = .ok (.iinc 4 1, 3) := by decide +kernel
theorem dN_subtract_59 : decode cN_subtract 59 = .ok (.goto (-54), 3) := by decide +kernel
theorem dN_subtract_62 : decode cN_subtract 62 = .ok (.return_, 1) := by decide +kernel
theorem dS_downReadsBack_0 : decode cS_downReadsBack 0 = .ok (.aload_n 0, 1) := by decide +kernel
theorem dS_downReadsBack_1 : decode cS_downReadsBack 1 = .ok (.getfield 16, 3) := by decide +kernel
theorem dS_downReadsBack_4 : decode cS_downReadsBack 4 = .ok (.aload_n 0, 1) := by decide +kernel
theorem dS_downReadsBack_5 : decode cS_downReadsBack 5 = .ok (.getfield 19, 3) := by decide +kernel
theorem dS_downReadsBack_8 : decode cS_downReadsBack 8 = .ok (.invokevirtual 86, 3) := by decide +kernel
theorem dS_downReadsBack_11 : decode cS_downReadsBack 11 = .ok (.istore_n 2, 1) := by decide +kernel
theorem dS_downReadsBack_12 : decode cS_downReadsBack 12 = .ok (.iload_n 2, 1) := by decide +kernel
theorem dS_downReadsBack_13 : decode cS_downReadsBack 13 = .ok (.ifCond .lt 11, 3) := by decide +kernel
theorem dS_downReadsBack_16 : decode cS_downReadsBack 16 = .ok (.iload_n 2, 1) := by decide +kernel
theorem dS_downReadsBack_17 : decode cS_downReadsBack 17 = .ok (.ifCond .ne 11, 3) := by decide +kernel
theorem dS_downReadsBack_20 : decode cS_downReadsBack 20 = .ok (.iload_n 1, 1) := by decide +kernel
theorem dS_downReadsBack_21 : decode cS_downReadsBack 21 = .ok (.ifCond .eq 7, 3) := by decide +kernel
theorem dS_downReadsBack_24 : decode cS_downReadsBack 24 = .ok (.iconst 1, 1) := by decide +kernel
theorem dS_downReadsBack_25 : decode cS_downReadsBack 25 = .ok (.goto 4, 3) := by decide +kernel
theorem dS_downReadsBack_28 : decode cS_downReadsBack 28 = .ok (.iconst 0, 1) := by decide +kernel
theorem dS_downReadsBack_29 : decode cS_downReadsBack 29 = .ok (.ireturn, 1) := by decide +kernel
theorem dS_upReadsBack_0 : decode cS_upReadsBack 0 = .ok (.aload_n 0, 1) := by decide +kernel
theorem dS_upReadsBack_1 : decode cS_upReadsBack 1 = .ok (.getfield 25, 3) := by decide +kernel
theorem dS_upReadsBack_4 : decode cS_upReadsBack 4 = .ok (.aload_n 0, 1) := by decide +kernel
theorem dS_upReadsBack_5 : decode cS_upReadsBack 5 = .ok (.getfield 16, 3) := by decide +kernel
theorem dS_upReadsBack_8 : decode cS_upReadsBack 8 = .ok (.aload_n 0, 1) := by decide +kernel
theorem dS_upReadsBack_9 : decode cS_upReadsBack 9 = .ok (.getfield 22, 3) := by decide +kernel
theorem dS_upReadsBack_12 : decode cS_upReadsBack 12 = .ok (.invokevirtual 98, 3) := by decide +kernel
theorem dS_upReadsBack_15 : decode cS_upReadsBack 15 = .ok (.aload_n 0, 1) := by decide +kernel
theorem dS_upReadsBack_16 : decode cS_upReadsBack 16 = .ok (.getfield 25, 3) := by decide +kernel
theorem dS_upReadsBack_19 : decode cS_upReadsBack 19 = .ok (.aload_n 0, 1) := by decide +kernel
theorem dS_upReadsBack_20 : decode cS_upReadsBack 20 = .ok (.getfield 10, 3) := by decide +kernel
theorem dS_upReadsBack_23 : decode cS_upReadsBack 23 = .ok (.invokevirtual 86, 3) := by decide +kernel
theorem dS_upReadsBack_26 : decode cS_upReadsBack 26 = .ok (.istore_n 2, 1) := by decide +kernel
theorem dS_upReadsBack_27 : decode cS_upReadsBack 27 = .ok (.iload_n 2, 1) := by decide +kernel
theorem dS_upReadsBack_28 : decode cS_upReadsBack 28 = .ok (.ifCond .gt 11, 3) := by decide +kernel
theorem dS_upReadsBack_31 : decode cS_upReadsBack 31 = .ok (.iload_n 2, 1) := by decide +kernel
theorem dS_upReadsBack_32 : decode cS_upReadsBack 32 = .ok (.ifCond .ne 11, 3) := by decide +kernel
theorem dS_upReadsBack_35 : decode cS_upReadsBack 35 = .ok (.iload_n 1, 1) := by decide +kernel
theorem dS_upReadsBack_36 : decode cS_upReadsBack 36 = .ok (.ifCond .eq 7, 3) := by decide +kernel
theorem dS_upReadsBack_39 : decode cS_upReadsBack 39 = .ok (.iconst 1, 1) := by decide +kernel
theorem dS_upReadsBack_40 : decode cS_upReadsBack 40 = .ok (.goto 4, 3) := by decide +kernel
theorem dS_upReadsBack_43 : decode cS_upReadsBack 43 = .ok (.iconst 0, 1) := by decide +kernel
theorem dS_upReadsBack_44 : decode cS_upReadsBack 44 = .ok (.ireturn, 1) := by decide +kernel
theorem dN_setSum_0 : decode cN_setSum 0 = .ok (.aload_n 0, 1) := by decide +kernel
theorem dN_setSum_1 : decode cN_setSum 1 = .ok (.invokevirtual 17, 3) := by decide +kernel
theorem dN_setSum_4 : decode cN_setSum 4 = .ok (.aload_n 0, 1) := by decide +kernel
theorem dN_setSum_5 : decode cN_setSum 5 = .ok (.aload_n 1, 1) := by decide +kernel
theorem dN_setSum_6 : decode cN_setSum 6 = .ok (.getfield 13, 3) := by decide +kernel
theorem dN_setSum_9 : decode cN_setSum 9 = .ok (.aload_n 2, 1) := by decide +kernel
theorem dN_setSum_10 : decode cN_setSum 10 = .ok (.getfield 13, 3) := by decide +kernel
theorem dN_setSum_13 : decode cN_setSum 13 = .ok (.invokestatic 36, 3) := by decide +kernel
theorem dN_setSum_16 : decode cN_setSum 16 = .ok (.putfield 13, 3) := by decide +kernel
theorem dN_setSum_19 : decode cN_setSum 19 = .ok (.lconst 0, 1) := by decide +kernel
theorem dN_setSum_20 : decode cN_setSum 20 = .ok (.lstore_n 3, 1) := by decide +kernel
theorem dN_setSum_21 : decode cN_setSum 21 = .ok (.iconst 0, 1) := by decide +kernel
theorem dN_setSum_22 : decode cN_setSum 22 = .ok (.istore 5, 2) := by decide +kernel
theorem dN_setSum_24 : decode cN_setSum 24 = .ok (.iload 5, 2) := by decide +kernel
theorem dN_setSum_26 : decode cN_setSum 26 = .ok (.aload_n 0, 1) := by decide +kernel
theorem dN_setSum_27 : decode cN_setSum 27 = .ok (.getfield 13, 3) := by decide +kernel
theorem dN_setSum_30 : decode cN_setSum 30 = .ok (.if_icmp .ge 51, 3) := by decide +kernel
theorem dN_setSum_33 : decode cN_setSum 33 = .ok (.lload_n 3, 1) := by decide +kernel
theorem dN_setSum_34 : decode cN_setSum 34 = .ok (.aload_n 1, 1) := by decide +kernel
theorem dN_setSum_35 : decode cN_setSum 35 = .ok (.getfield 9, 3) := by decide +kernel
theorem dN_setSum_38 : decode cN_setSum 38 = .ok (.iload 5, 2) := by decide +kernel
theorem dN_setSum_40 : decode cN_setSum 40 = .ok (.iaload, 1) := by decide +kernel
theorem dN_setSum_41 : decode cN_setSum 41 = .ok (.i2l, 1) := by decide +kernel
theorem dN_setSum_42 : decode cN_setSum 42 = .ok (.ldc2_w 31, 3) := by decide +kernel
theorem dN_setSum_45 : decode cN_setSum 45 = .ok (.land, 1) := by decide +kernel
theorem dN_setSum_46 : decode cN_setSum 46 = .ok (.aload_n 2, 1) := by decide +kernel
theorem dN_setSum_47 : decode cN_setSum 47 = .ok (.getfield 9, 3) := by decide +kernel
theorem dN_setSum_50 : decode cN_setSum 50 = .ok (.iload 5, 2) := by decide +kernel
theorem dN_setSum_52 : decode cN_setSum 52 = .ok (.iaload, 1) := by decide +kernel
theorem dN_setSum_53 : decode cN_setSum 53 = .ok (.i2l, 1) := by decide +kernel
theorem dN_setSum_54 : decode cN_setSum 54 = .ok (.ldc2_w 31, 3) := by decide +kernel
theorem dN_setSum_57 : decode cN_setSum 57 = .ok (.land, 1) := by decide +kernel
theorem dN_setSum_58 : decode cN_setSum 58 = .ok (.ladd, 1) := by decide +kernel
theorem dN_setSum_59 : decode cN_setSum 59 = .ok (.ladd, 1) := by decide +kernel
theorem dN_setSum_60 : decode cN_setSum 60 = .ok (.lstore_n 3, 1) := by decide +kernel
theorem dN_setSum_61 : decode cN_setSum 61 = .ok (.aload_n 0, 1) := by decide +kernel
theorem dN_setSum_62 : decode cN_setSum 62 = .ok (.getfield 9, 3) := by decide +kernel
theorem dN_setSum_65 : decode cN_setSum 65 = .ok (.iload 5, 2) := by decide +kernel
theorem dN_setSum_67 : decode cN_setSum 67 = .ok (.lload_n 3, 1) := by decide +kernel
theorem dN_setSum_68 : decode cN_setSum 68 = .ok (.l2i, 1) := by decide +kernel
theorem dN_setSum_69 : decode cN_setSum 69 = .ok (.iastore, 1) := by decide +kernel
theorem dN_setSum_70 : decode cN_setSum 70 = .ok (.lload_n 3, 1) := by decide +kernel
theorem dN_setSum_71 : decode cN_setSum 71 = .ok (.bipush 32, 2) := by decide +kernel
theorem dN_setSum_73 : decode cN_setSum 73 = .ok (.lushr, 1) := by decide +kernel
theorem dN_setSum_74 : decode cN_setSum 74 = .ok (.lstore_n 3, 1) := by decide +kernel
theorem dN_setSum_75 : decode cN_setSum 75 = .ok (.iinc 5 1, 3) := by decide +kernel
theorem dN_setSum_78 : decode cN_setSum 78 = .ok (.goto (-54), 3) := by decide +kernel
theorem dN_setSum_81 : decode cN_setSum 81 = .ok (.aload_n 0, 1) := by decide +kernel
theorem dN_setSum_82 : decode cN_setSum 82 = .ok (.lload_n 3, 1) := by decide +kernel
theorem dN_setSum_83 : decode cN_setSum 83 = .ok (.l2i, 1) := by decide +kernel
theorem dN_setSum_84 : decode cN_setSum 84 = .ok (.invokevirtual 33, 3) := by decide +kernel
theorem dN_setSum_87 : decode cN_setSum 87 = .ok (.return_, 1) := by decide +kernel
theorem dS_upIsBetter_0 : decode cS_upIsBetter 0 = .ok (.aload_n 0, 1) := by decide +kernel
theorem dS_upIsBetter_1 : decode cS_upIsBetter 1 = .ok (.getfield 25, 3) := by decide +kernel
theorem dS_upIsBetter_4 : decode cS_upIsBetter 4 = .ok (.aload_n 0, 1) := by decide +kernel
theorem dS_upIsBetter_5 : decode cS_upIsBetter 5 = .ok (.getfield 16, 3) := by decide +kernel
theorem dS_upIsBetter_8 : decode cS_upIsBetter 8 = .ok (.aload_n 0, 1) := by decide +kernel
theorem dS_upIsBetter_9 : decode cS_upIsBetter 9 = .ok (.getfield 16, 3) := by decide +kernel
theorem dS_upIsBetter_12 : decode cS_upIsBetter 12 = .ok (.invokevirtual 98, 3) := by decide +kernel
theorem dS_upIsBetter_15 : decode cS_upIsBetter 15 = .ok (.aload_n 0, 1) := by decide +kernel
theorem dS_upIsBetter_16 : decode cS_upIsBetter 16 = .ok (.getfield 25, 3) := by decide +kernel
theorem dS_upIsBetter_19 : decode cS_upIsBetter 19 = .ok (.aload_n 0, 1) := by decide +kernel
theorem dS_upIsBetter_20 : decode cS_upIsBetter 20 = .ok (.getfield 10, 3) := by decide +kernel
theorem dS_upIsBetter_23 : decode cS_upIsBetter 23 = .ok (.invokevirtual 86, 3) := by decide +kernel
theorem dS_upIsBetter_26 : decode cS_upIsBetter 26 = .ok (.istore_n 3, 1) := by decide +kernel
theorem dS_upIsBetter_27 : decode cS_upIsBetter 27 = .ok (.iload_n 3, 1) := by decide +kernel
theorem dS_upIsBetter_28 : decode cS_upIsBetter 28 = .ok (.ifCond .gt 15, 3) := by decide +kernel
theorem dS_upIsBetter_31 : decode cS_upIsBetter 31 = .ok (.iload_n 3, 1) := by decide +kernel
theorem dS_upIsBetter_32 : decode cS_upIsBetter 32 = .ok (.ifCond .ne 15, 3) := by decide +kernel
theorem dS_upIsBetter_35 : decode cS_upIsBetter 35 = .ok (.lload_n 1, 1) := by decide +kernel
theorem dS_upIsBetter_36 : decode cS_upIsBetter 36 = .ok (.lconst 1, 1) := by decide +kernel
theorem dS_upIsBetter_37 : decode cS_upIsBetter 37 = .ok (.land, 1) := by decide +kernel
theorem dS_upIsBetter_38 : decode cS_upIsBetter 38 = .ok (.lconst 1, 1) := by decide +kernel
theorem dS_upIsBetter_39 : decode cS_upIsBetter 39 = .ok (.lcmp, 1) := by decide +kernel
theorem dS_upIsBetter_40 : decode cS_upIsBetter 40 = .ok (.ifCond .ne 7, 3) := by decide +kernel
theorem dS_upIsBetter_43 : decode cS_upIsBetter 43 = .ok (.iconst 1, 1) := by decide +kernel
theorem dS_upIsBetter_44 : decode cS_upIsBetter 44 = .ok (.goto 4, 3) := by decide +kernel
theorem dS_upIsBetter_47 : decode cS_upIsBetter 47 = .ok (.iconst 0, 1) := by decide +kernel
theorem dS_upIsBetter_48 : decode cS_upIsBetter 48 = .ok (.ireturn, 1) := by decide +kernel
theorem dS_keep_0 : decode cS_keep 0 = .ok (.lload_n 1, 1) := by decide +kernel
theorem dS_keep_1 : decode cS_keep 1 = .ok (.lstore 4, 2) := by decide +kernel
theorem dS_keep_3 : decode cS_keep 3 = .ok (.iconst 0, 1) := by decide +kernel
theorem dS_keep_4 : decode cS_keep 4 = .ok (.istore 6, 2) := by decide +kernel
theorem dS_keep_6 : decode cS_keep 6 = .ok (.iload 6, 2) := by decide +kernel
theorem dS_keep_8 : decode cS_keep 8 = .ok (.bipush 17, 2) := by decide +kernel
theorem dS_keep_10 : decode cS_keep 10 = .ok (.if_icmp .ge 28, 3) := by decide +kernel
theorem dS_keep_13 : decode cS_keep 13 = .ok (.lload 4, 2) := by decide +kernel
theorem dS_keep_15 : decode cS_keep 15 = .ok (.ldc2_w 43, 3) := by decide +kernel
theorem dS_keep_18 : decode cS_keep 18 = .ok (.lrem, 1) := by decide +kernel
theorem dS_keep_19 : decode cS_keep 19 = .ok (.lconst 0, 1) := by decide +kernel
theorem dS_keep_20 : decode cS_keep 20 = .ok (.lcmp, 1) := by decide +kernel
theorem dS_keep_21 : decode cS_keep 21 = .ok (.ifCond .ne 17, 3) := by decide +kernel
theorem dS_keep_24 : decode cS_keep 24 = .ok (.lload 4, 2) := by decide +kernel
theorem dS_keep_26 : decode cS_keep 26 = .ok (.ldc2_w 43, 3) := by decide +kernel
theorem dS_keep_29 : decode cS_keep 29 = .ok (.ldiv, 1) := by decide +kernel
theorem dS_keep_30 : decode cS_keep 30 = .ok (.lstore 4, 2) := by decide +kernel
theorem dS_keep_32 : decode cS_keep 32 = .ok (.iinc 6 1, 3) := by decide +kernel
theorem dS_keep_35 : decode cS_keep 35 = .ok (.goto (-29), 3) := by decide +kernel
theorem dS_keep_38 : decode cS_keep 38 = .ok (.aload_n 0, 1) := by decide +kernel
theorem dS_keep_39 : decode cS_keep 39 = .ok (.iconst 0, 1) := by decide +kernel
theorem dS_keep_40 : decode cS_keep 40 = .ok (.putfield 32, 3) := by decide +kernel
theorem dS_keep_43 : decode cS_keep 43 = .ok (.lload 4, 2) := by decide +kernel
theorem dS_keep_45 : decode cS_keep 45 = .ok (.lstore 7, 2) := by decide +kernel
theorem dS_keep_47 : decode cS_keep 47 = .ok (.aload_n 0, 1) := by decide +kernel
theorem dS_keep_48 : decode cS_keep 48 = .ok (.getfield 32, 3) := by decide +kernel
theorem dS_keep_51 : decode cS_keep 51 = .ok (.bipush 17, 2) := by decide +kernel
theorem dS_keep_53 : decode cS_keep 53 = .ok (.if_icmp .ge 31, 3) := by decide +kernel
theorem dS_keep_56 : decode cS_keep 56 = .ok (.lload 7, 2) := by decide +kernel
theorem dS_keep_58 : decode cS_keep 58 = .ok (.lconst 0, 1) := by decide +kernel
theorem dS_keep_59 : decode cS_keep 59 = .ok (.lcmp, 1) := by decide +kernel
theorem dS_keep_60 : decode cS_keep 60 = .ok (.ifCond .le 24, 3) := by decide +kernel
theorem dS_keep_63 : decode cS_keep 63 = .ok (.aload_n 0, 1) := by decide +kernel
theorem dS_keep_64 : decode cS_keep 64 = .ok (.dup, 1) := by decide +kernel
theorem dS_keep_65 : decode cS_keep 65 = .ok (.getfield 32, 3) := by decide +kernel
theorem dS_keep_68 : decode cS_keep 68 = .ok (.iconst 1, 1) := by decide +kernel
theorem dS_keep_69 : decode cS_keep 69 = .ok (.iadd, 1) := by decide +kernel
theorem dS_keep_70 : decode cS_keep 70 = .ok (.putfield 32, 3) := by decide +kernel
theorem dS_keep_73 : decode cS_keep 73 = .ok (.lload 7, 2) := by decide +kernel
theorem dS_keep_75 : decode cS_keep 75 = .ok (.ldc2_w 43, 3) := by decide +kernel
theorem dS_keep_78 : decode cS_keep 78 = .ok (.ldiv, 1) := by decide +kernel
theorem dS_keep_79 : decode cS_keep 79 = .ok (.lstore 7, 2) := by decide +kernel
theorem dS_keep_81 : decode cS_keep 81 = .ok (.goto (-34), 3) := by decide +kernel
theorem dS_keep_84 : decode cS_keep 84 = .ok (.aload_n 0, 1) := by decide +kernel
theorem dS_keep_85 : decode cS_keep 85 = .ok (.getfield 32, 3) := by decide +kernel
theorem dS_keep_88 : decode cS_keep 88 = .ok (.iconst 1, 1) := by decide +kernel
theorem dS_keep_89 : decode cS_keep 89 = .ok (.isub, 1) := by decide +kernel
theorem dS_keep_90 : decode cS_keep 90 = .ok (.istore 7, 2) := by decide +kernel
theorem dS_keep_92 : decode cS_keep 92 = .ok (.iload 7, 2) := by decide +kernel
theorem dS_keep_94 : decode cS_keep 94 = .ok (.ifCond .lt 36, 3) := by decide +kernel
theorem dS_keep_97 : decode cS_keep 97 = .ok (.aload_n 0, 1) := by decide +kernel
theorem dS_keep_98 : decode cS_keep 98 = .ok (.getfield 28, 3) := by decide +kernel
theorem dS_keep_101 : decode cS_keep 101 = .ok (.iload 7, 2) := by decide +kernel
theorem dS_keep_103 : decode cS_keep 103 = .ok (.ldc2_w 102, 3) := by decide +kernel
theorem dS_keep_106 : decode cS_keep 106 = .ok (.lload 4, 2) := by decide +kernel
theorem dS_keep_108 : decode cS_keep 108 = .ok (.ldc2_w 43, 3) := by decide +kernel
theorem dS_keep_111 : decode cS_keep 111 = .ok (.lrem, 1) := by decide +kernel
theorem dS_keep_112 : decode cS_keep 112 = .ok (.ladd, 1) := by decide +kernel
theorem dS_keep_113 : decode cS_keep 113 = .ok (.l2i, 1) := by decide +kernel
theorem dS_keep_114 : decode cS_keep 114 = .ok (.i2c, 1) := by decide +kernel
theorem dS_keep_115 : decode cS_keep 115 = .ok (.castore, 1) := by decide +kernel
theorem dS_keep_116 : decode cS_keep 116 = .ok (.lload 4, 2) := by decide +kernel
theorem dS_keep_118 : decode cS_keep 118 = .ok (.ldc2_w 43, 3) := by decide +kernel
theorem dS_keep_121 : decode cS_keep 121 = .ok (.ldiv, 1) := by decide +kernel
theorem dS_keep_122 : decode cS_keep 122 = .ok (.lstore 4, 2) := by decide +kernel
theorem dS_keep_124 : decode cS_keep 124 = .ok (.iinc 7 (-1), 3) := by decide +kernel
theorem dS_keep_127 : decode cS_keep 127 = .ok (.goto (-35), 3) := by decide +kernel
theorem dS_keep_130 : decode cS_keep 130 = .ok (.aload_n 0, 1) := by decide +kernel
theorem dS_keep_131 : decode cS_keep 131 = .ok (.iload_n 3, 1) := by decide +kernel
theorem dS_keep_132 : decode cS_keep 132 = .ok (.iload 6, 2) := by decide +kernel
theorem dS_keep_134 : decode cS_keep 134 = .ok (.iadd, 1) := by decide +kernel
theorem dS_keep_135 : decode cS_keep 135 = .ok (.aload_n 0, 1) := by decide +kernel
theorem dS_keep_136 : decode cS_keep 136 = .ok (.getfield 32, 3) := by decide +kernel
theorem dS_keep_139 : decode cS_keep 139 = .ok (.iadd, 1) := by decide +kernel
theorem dS_keep_140 : decode cS_keep 140 = .ok (.putfield 36, 3) := by decide +kernel
theorem dS_keep_143 : decode cS_keep 143 = .ok (.return_, 1) := by decide +kernel
theorem dP_writeShortest_0 : decode cP_writeShortest 0 = .ok (.aload_n 0, 1) := by decide +kernel
theorem dP_writeShortest_1 : decode cP_writeShortest 1 = .ok (.getfield 19, 3) := by decide +kernel
theorem dP_writeShortest_4 : decode cP_writeShortest 4 = .ok (.invokevirtual 73, 3) := by decide +kernel
theorem dP_writeShortest_7 : decode cP_writeShortest 7 = .ok (.istore_n 1, 1) := by decide +kernel
theorem dP_writeShortest_8 : decode cP_writeShortest 8 = .ok (.iload_n 1, 1) := by decide +kernel
theorem dP_writeShortest_9 : decode cP_writeShortest 9 = .ok (.bipush (-2), 2) := by decide +kernel
theorem dP_writeShortest_11 : decode cP_writeShortest 11 = .ok (.if_icmp .lt 24, 3) := by decide +kernel
theorem dP_writeShortest_14 : decode cP_writeShortest 14 = .ok (.iload_n 1, 1) := by decide +kernel
theorem dP_writeShortest_15 : decode cP_writeShortest 15 = .ok (.bipush 7, 2) := by decide +kernel
theorem dP_writeShortest_17 : decode cP_writeShortest 17 = .ok (.if_icmp .gt 18, 3) := by decide +kernel
theorem dP_writeShortest_20 : decode cP_writeShortest 20 = .ok (.aload_n 0, 1) := by decide +kernel
theorem dP_writeShortest_21 : decode cP_writeShortest 21 = .ok (.iload_n 1, 1) := by decide +kernel
theorem dP_writeShortest_22 : decode cP_writeShortest 22 = .ok (.iconst 1, 1) := by decide +kernel
theorem dP_writeShortest_23 : decode cP_writeShortest 23 = .ok (.isub, 1) := by decide +kernel
theorem dP_writeShortest_24 : decode cP_writeShortest 24 = .ok (.iconst 0, 1) := by decide +kernel
theorem dP_writeShortest_25 : decode cP_writeShortest 25 = .ok (.invokestatic 76, 3) := by decide +kernel
theorem dP_writeShortest_28 : decode cP_writeShortest 28 = .ok (.iload_n 1, 1) := by decide +kernel
theorem dP_writeShortest_29 : decode cP_writeShortest 29 = .ok (.invokevirtual 82, 3) := by decide +kernel
theorem dP_writeShortest_32 : decode cP_writeShortest 32 = .ok (.goto 28, 3) := by decide +kernel
theorem dP_writeShortest_35 : decode cP_writeShortest 35 = .ok (.aload_n 0, 1) := by decide +kernel
theorem dP_writeShortest_36 : decode cP_writeShortest 36 = .ok (.iconst 0, 1) := by decide +kernel
theorem dP_writeShortest_37 : decode cP_writeShortest 37 = .ok (.iconst 1, 1) := by decide +kernel
theorem dP_writeShortest_38 : decode cP_writeShortest 38 = .ok (.invokevirtual 82, 3) := by decide +kernel
theorem dP_writeShortest_41 : decode cP_writeShortest 41 = .ok (.aload_n 0, 1) := by decide +kernel
theorem dP_writeShortest_42 : decode cP_writeShortest 42 = .ok (.getfield 10, 3) := by decide +kernel
theorem dP_writeShortest_45 : decode cP_writeShortest 45 = .ok (.bipush 69, 2) := by decide +kernel
theorem dP_writeShortest_47 : decode cP_writeShortest 47 = .ok (.invokevirtual 48, 3) := by decide +kernel
theorem dP_writeShortest_50 : decode cP_writeShortest 50 = .ok (.aload_n 0, 1) := by decide +kernel
theorem dP_writeShortest_51 : decode cP_writeShortest 51 = .ok (.getfield 10, 3) := by decide +kernel
theorem dP_writeShortest_54 : decode cP_writeShortest 54 = .ok (.iload_n 1, 1) := by decide +kernel
theorem dP_writeShortest_55 : decode cP_writeShortest 55 = .ok (.iconst 1, 1) := by decide +kernel
theorem dP_writeShortest_56 : decode cP_writeShortest 56 = .ok (.isub, 1) := by decide +kernel
theorem dP_writeShortest_57 : decode cP_writeShortest 57 = .ok (.invokevirtual 86, 3) := by decide +kernel
theorem dP_writeShortest_60 : decode cP_writeShortest 60 = .ok (.return_, 1) := by decide +kernel
theorem dS_point_0 : decode cS_point 0 = .ok (.aload_n 0, 1) := by decide +kernel
theorem dS_point_1 : decode cS_point 1 = .ok (.getfield 36, 3) := by decide +kernel
theorem dS_point_4 : decode cS_point 4 = .ok (.ireturn, 1) := by decide +kernel
theorem dP_writeAround_0 : decode cP_writeAround 0 = .ok (.iload_n 1, 1) := by decide +kernel
theorem dP_writeAround_1 : decode cP_writeAround 1 = .ok (.istore_n 3, 1) := by decide +kernel
theorem dP_writeAround_2 : decode cP_writeAround 2 = .ok (.iload_n 3, 1) := by decide +kernel
theorem dP_writeAround_3 : decode cP_writeAround 3 = .ok (.iload_n 2, 1) := by decide +kernel
theorem dP_writeAround_4 : decode cP_writeAround 4 = .ok (.if_icmp .ge 24, 3) := by decide +kernel
theorem dP_writeAround_7 : decode cP_writeAround 7 = .ok (.aload_n 0, 1) := by decide +kernel
theorem dP_writeAround_8 : decode cP_writeAround 8 = .ok (.getfield 10, 3) := by decide +kernel
theorem dP_writeAround_11 : decode cP_writeAround 11 = .ok (.aload_n 0, 1) := by decide +kernel
theorem dP_writeAround_12 : decode cP_writeAround 12 = .ok (.getfield 19, 3) := by decide +kernel
theorem dP_writeAround_15 : decode cP_writeAround 15 = .ok (.iload_n 3, 1) := by decide +kernel
theorem dP_writeAround_16 : decode cP_writeAround 16 = .ok (.invokevirtual 90, 3) := by decide +kernel
theorem dP_writeAround_19 : decode cP_writeAround 19 = .ok (.invokevirtual 48, 3) := by decide +kernel
theorem dP_writeAround_22 : decode cP_writeAround 22 = .ok (.iinc 3 1, 3) := by decide +kernel
theorem dP_writeAround_25 : decode cP_writeAround 25 = .ok (.goto (-23), 3) := by decide +kernel
theorem dP_writeAround_28 : decode cP_writeAround 28 = .ok (.aload_n 0, 1) := by decide +kernel
theorem dP_writeAround_29 : decode cP_writeAround 29 = .ok (.getfield 10, 3) := by decide +kernel
theorem dP_writeAround_32 : decode cP_writeAround 32 = .ok (.bipush 46, 2) := by decide +kernel
theorem dP_writeAround_34 : decode cP_writeAround 34 = .ok (.invokevirtual 48, 3) := by decide +kernel
theorem dP_writeAround_37 : decode cP_writeAround 37 = .ok (.aload_n 0, 1) := by decide +kernel
theorem dP_writeAround_38 : decode cP_writeAround 38 = .ok (.getfield 19, 3) := by decide +kernel
theorem dP_writeAround_41 : decode cP_writeAround 41 = .ok (.invokevirtual 94, 3) := by decide +kernel
theorem dP_writeAround_44 : decode cP_writeAround 44 = .ok (.iload_n 2, 1) := by decide +kernel
theorem dP_writeAround_45 : decode cP_writeAround 45 = .ok (.iconst 1, 1) := by decide +kernel
theorem dP_writeAround_46 : decode cP_writeAround 46 = .ok (.iadd, 1) := by decide +kernel
theorem dP_writeAround_47 : decode cP_writeAround 47 = .ok (.invokestatic 97, 3) := by decide +kernel
theorem dP_writeAround_50 : decode cP_writeAround 50 = .ok (.istore_n 3, 1) := by decide +kernel
theorem dP_writeAround_51 : decode cP_writeAround 51 = .ok (.iload_n 2, 1) := by decide +kernel
theorem dP_writeAround_52 : decode cP_writeAround 52 = .ok (.istore 4, 2) := by decide +kernel
theorem dP_writeAround_54 : decode cP_writeAround 54 = .ok (.iload 4, 2) := by decide +kernel
theorem dP_writeAround_56 : decode cP_writeAround 56 = .ok (.iload_n 3, 1) := by decide +kernel
theorem dP_writeAround_57 : decode cP_writeAround 57 = .ok (.if_icmp .ge 25, 3) := by decide +kernel
theorem dP_writeAround_60 : decode cP_writeAround 60 = .ok (.aload_n 0, 1) := by decide +kernel
theorem dP_writeAround_61 : decode cP_writeAround 61 = .ok (.getfield 10, 3) := by decide +kernel
theorem dP_writeAround_64 : decode cP_writeAround 64 = .ok (.aload_n 0, 1) := by decide +kernel
theorem dP_writeAround_65 : decode cP_writeAround 65 = .ok (.getfield 19, 3) := by decide +kernel
theorem dP_writeAround_68 : decode cP_writeAround 68 = .ok (.iload 4, 2) := by decide +kernel
theorem dP_writeAround_70 : decode cP_writeAround 70 = .ok (.invokevirtual 90, 3) := by decide +kernel
theorem dP_writeAround_73 : decode cP_writeAround 73 = .ok (.invokevirtual 48, 3) := by decide +kernel
theorem dP_writeAround_76 : decode cP_writeAround 76 = .ok (.iinc 4 1, 3) := by decide +kernel
theorem dP_writeAround_79 : decode cP_writeAround 79 = .ok (.goto (-25), 3) := by decide +kernel
theorem dP_writeAround_82 : decode cP_writeAround 82 = .ok (.return_, 1) := by decide +kernel
theorem dS_digit_0 : decode cS_digit 0 = .ok (.iload_n 1, 1) := by decide +kernel
theorem dS_digit_1 : decode cS_digit 1 = .ok (.ifCond .lt 20, 3) := by decide +kernel
theorem dS_digit_4 : decode cS_digit 4 = .ok (.iload_n 1, 1) := by decide +kernel
theorem dS_digit_5 : decode cS_digit 5 = .ok (.aload_n 0, 1) := by decide +kernel
theorem dS_digit_6 : decode cS_digit 6 = .ok (.getfield 32, 3) := by decide +kernel
theorem dS_digit_9 : decode cS_digit 9 = .ok (.if_icmp .ge 12, 3) := by decide +kernel
theorem dS_digit_12 : decode cS_digit 12 = .ok (.aload_n 0, 1) := by decide +kernel
theorem dS_digit_13 : decode cS_digit 13 = .ok (.getfield 28, 3) := by decide +kernel
theorem dS_digit_16 : decode cS_digit 16 = .ok (.iload_n 1, 1) := by decide +kernel
theorem dS_digit_17 : decode cS_digit 17 = .ok (.caload, 1) := by decide +kernel
theorem dS_digit_18 : decode cS_digit 18 = .ok (.goto 5, 3) := by decide +kernel
theorem dS_digit_21 : decode cS_digit 21 = .ok (.bipush 48, 2) := by decide +kernel
theorem dS_digit_23 : decode cS_digit 23 = .ok (.ireturn, 1) := by decide +kernel
theorem dS_count_0 : decode cS_count 0 = .ok (.aload_n 0, 1) := by decide +kernel
theorem dS_count_1 : decode cS_count 1 = .ok (.getfield 32, 3) := by decide +kernel
theorem dS_count_4 : decode cS_count 4 = .ok (.ireturn, 1) := by decide +kernel
theorem dT_addExponent_0 : decode cT_addExponent 0 = .ok (.iload_n 1, 1) := by decide +kernel
theorem dT_addExponent_1 : decode cT_addExponent 1 = .ok (.ifCond .ge 9, 3) := by decide +kernel
theorem dT_addExponent_4 : decode cT_addExponent 4 = .ok (.aload_n 0, 1) := by decide +kernel
theorem dT_addExponent_5 : decode cT_addExponent 5 = .ok (.bipush 45, 2) := by decide +kernel
theorem dT_addExponent_7 : decode cT_addExponent 7 = .ok (.invokevirtual 26, 3) := by decide +kernel
theorem dT_addExponent_10 : decode cT_addExponent 10 = .ok (.iload_n 1, 1) := by decide +kernel
theorem dT_addExponent_11 : decode cT_addExponent 11 = .ok (.invokestatic 30, 3) := by decide +kernel
theorem dT_addExponent_14 : decode cT_addExponent 14 = .ok (.istore_n 2, 1) := by decide +kernel
theorem dT_addExponent_15 : decode cT_addExponent 15 = .ok (.iload_n 2, 1) := by decide +kernel
theorem dT_addExponent_16 : decode cT_addExponent 16 = .ok (.bipush 100, 2) := by decide +kernel
theorem dT_addExponent_18 : decode cT_addExponent 18 = .ok (.if_icmp .lt 14, 3) := by decide +kernel
theorem dT_addExponent_21 : decode cT_addExponent 21 = .ok (.aload_n 0, 1) := by decide +kernel
theorem dT_addExponent_22 : decode cT_addExponent 22 = .ok (.iload_n 2, 1) := by decide +kernel
theorem dT_addExponent_23 : decode cT_addExponent 23 = .ok (.bipush 100, 2) := by decide +kernel
theorem dT_addExponent_25 : decode cT_addExponent 25 = .ok (.idiv, 1) := by decide +kernel
theorem dT_addExponent_26 : decode cT_addExponent 26 = .ok (.invokestatic 36, 3) := by decide +kernel
theorem dT_addExponent_29 : decode cT_addExponent 29 = .ok (.invokevirtual 26, 3) := by decide +kernel
theorem dT_addExponent_32 : decode cT_addExponent 32 = .ok (.iload_n 2, 1) := by decide +kernel
theorem dT_addExponent_33 : decode cT_addExponent 33 = .ok (.bipush 10, 2) := by decide +kernel
theorem dT_addExponent_35 : decode cT_addExponent 35 = .ok (.if_icmp .lt 14, 3) := by decide +kernel
theorem dT_addExponent_38 : decode cT_addExponent 38 = .ok (.aload_n 0, 1) := by decide +kernel
theorem dT_addExponent_39 : decode cT_addExponent 39 = .ok (.iload_n 2, 1) := by decide +kernel
theorem dT_addExponent_40 : decode cT_addExponent 40 = .ok (.bipush 10, 2) := by decide +kernel
theorem dT_addExponent_42 : decode cT_addExponent 42 = .ok (.idiv, 1) := by decide +kernel
theorem dT_addExponent_43 : decode cT_addExponent 43 = .ok (.invokestatic 36, 3) := by decide +kernel
theorem dT_addExponent_46 : decode cT_addExponent 46 = .ok (.invokevirtual 26, 3) := by decide +kernel
theorem dT_addExponent_49 : decode cT_addExponent 49 = .ok (.aload_n 0, 1) := by decide +kernel
theorem dT_addExponent_50 : decode cT_addExponent 50 = .ok (.iload_n 2, 1) := by decide +kernel
theorem dT_addExponent_51 : decode cT_addExponent 51 = .ok (.invokestatic 36, 3) := by decide +kernel
theorem dT_addExponent_54 : decode cT_addExponent 54 = .ok (.invokevirtual 26, 3) := by decide +kernel
theorem dT_addExponent_57 : decode cT_addExponent 57 = .ok (.return_, 1) := by decide +kernel
theorem dJM_abs_0 : decode cJM_abs 0 = .ok (.iload_n 0, 1) := by decide +kernel
theorem dJM_abs_1 : decode cJM_abs 1 = .ok (.ifCond .ge 8, 3) := by decide +kernel
theorem dJM_abs_4 : decode cJM_abs 4 = .ok (.iload_n 0, 1) := by decide +kernel
theorem dJM_abs_5 : decode cJM_abs 5 = .ok (.ineg, 1) := by decide +kernel
theorem dJM_abs_6 : decode cJM_abs 6 = .ok (.goto 4, 3) := by decide +kernel
theorem dJM_abs_9 : decode cJM_abs 9 = .ok (.iload_n 0, 1) := by decide +kernel
theorem dJM_abs_10 : decode cJM_abs 10 = .ok (.ireturn, 1) := by decide +kernel
theorem dT_digitLetter_0 : decode cT_digitLetter 0 = .ok (.bipush 48, 2) := by decide +kernel
theorem dT_digitLetter_2 : decode cT_digitLetter 2 = .ok (.iload_n 0, 1) := by decide +kernel
theorem dT_digitLetter_3 : decode cT_digitLetter 3 = .ok (.bipush 10, 2) := by decide +kernel
theorem dT_digitLetter_5 : decode cT_digitLetter 5 = .ok (.irem, 1) := by decide +kernel
theorem dT_digitLetter_6 : decode cT_digitLetter 6 = .ok (.iadd, 1) := by decide +kernel
theorem dT_digitLetter_7 : decode cT_digitLetter 7 = .ok (.i2c, 1) := by decide +kernel
theorem dT_digitLetter_8 : decode cT_digitLetter 8 = .ok (.ireturn, 1) := by decide +kernel
theorem dT_length_0 : decode cT_length 0 = .ok (.aload_n 0, 1) := by decide +kernel
theorem dT_length_1 : decode cT_length 1 = .ok (.getfield 13, 3) := by decide +kernel
theorem dT_length_4 : decode cT_length 4 = .ok (.ireturn, 1) := by decide +kernel
theorem dP_printFloat_0 : decode cP_printFloat 0 = .ok (.iload_n 1, 1) := by decide +kernel
theorem dP_printFloat_1 : decode cP_printFloat 1 = .ok (.ldc 33, 2) := by decide +kernel
theorem dP_printFloat_3 : decode cP_printFloat 3 = .ok (.iand, 1) := by decide +kernel
theorem dP_printFloat_4 : decode cP_printFloat 4 = .ok (.istore_n 2, 1) := by decide +kernel
theorem dP_printFloat_5 : decode cP_printFloat 5 = .ok (.iload_n 1, 1) := by decide +kernel
theorem dP_printFloat_6 : decode cP_printFloat 6 = .ok (.bipush 23, 2) := by decide +kernel
theorem dP_printFloat_8 : decode cP_printFloat 8 = .ok (.iushr, 1) := by decide +kernel
theorem dP_printFloat_9 : decode cP_printFloat 9 = .ok (.sipush 255, 3) := by decide +kernel
theorem dP_printFloat_12 : decode cP_printFloat 12 = .ok (.iand, 1) := by decide +kernel
theorem dP_printFloat_13 : decode cP_printFloat 13 = .ok (.istore_n 3, 1) := by decide +kernel
theorem dP_printFloat_14 : decode cP_printFloat 14 = .ok (.aload_n 0, 1) := by decide +kernel
theorem dP_printFloat_15 : decode cP_printFloat 15 = .ok (.iload_n 1, 1) := by decide +kernel
theorem dP_printFloat_16 : decode cP_printFloat 16 = .ok (.ifCond .ge 7, 3) := by decide +kernel
theorem dP_printFloat_19 : decode cP_printFloat 19 = .ok (.iconst 1, 1) := by decide +kernel
theorem dP_printFloat_20 : decode cP_printFloat 20 = .ok (.goto 4, 3) := by decide +kernel
theorem dP_printFloat_23 : decode cP_printFloat 23 = .ok (.iconst 0, 1) := by decide +kernel
theorem dP_printFloat_24 : decode cP_printFloat 24 = .ok (.iload_n 3, 1) := by decide +kernel
theorem dP_printFloat_25 : decode cP_printFloat 25 = .ok (.sipush 255, 3) := by decide +kernel
theorem dP_printFloat_28 : decode cP_printFloat 28 = .ok (.iload_n 2, 1) := by decide +kernel
theorem dP_printFloat_29 : decode cP_printFloat 29 = .ok (.i2l, 1) := by decide +kernel
theorem dP_printFloat_30 : decode cP_printFloat 30 = .ok (.bipush 23, 2) := by decide +kernel
theorem dP_printFloat_32 : decode cP_printFloat 32 = .ok (.invokevirtual 25, 3) := by decide +kernel
theorem dP_printFloat_35 : decode cP_printFloat 35 = .ok (.aload_n 0, 1) := by decide +kernel
theorem dP_printFloat_36 : decode cP_printFloat 36 = .ok (.getfield 10, 3) := by decide +kernel
theorem dP_printFloat_39 : decode cP_printFloat 39 = .ok (.invokevirtual 29, 3) := by decide +kernel
theorem dP_printFloat_42 : decode cP_printFloat 42 = .ok (.ireturn, 1) := by decide +kernel
theorem dL_word_0 : decode cL_word 0 = .ok (.aload_n 2, 1) := by decide +kernel
theorem dL_word_1 : decode cL_word 1 = .ok (.iconst 0, 1) := by decide +kernel
theorem dL_word_2 : decode cL_word 2 = .ok (.aload_n 0, 1) := by decide +kernel
theorem dL_word_3 : decode cL_word 3 = .ok (.iload_n 1, 1) := by decide +kernel
theorem dL_word_4 : decode cL_word 4 = .ok (.invokevirtual 7, 3) := by decide +kernel
theorem dL_word_7 : decode cL_word 7 = .ok (.lastore, 1) := by decide +kernel
theorem dL_word_8 : decode cL_word 8 = .ok (.goto 6, 3) := by decide +kernel
theorem dL_word_11 : decode cL_word 11 = .ok (.astore_n 3, 1) := by decide +kernel
theorem dL_word_12 : decode cL_word 12 = .ok (.iconst 1, 1) := by decide +kernel
theorem dL_word_13 : decode cL_word 13 = .ok (.ireturn, 1) := by decide +kernel
theorem dL_word_14 : decode cL_word 14 = .ok (.iconst 0, 1) := by decide +kernel
theorem dL_word_15 : decode cL_word 15 = .ok (.ireturn, 1) := by decide +kernel
theorem dP_word_0 : decode cP_word 0 = .ok (.aload_n 0, 1) := by decide +kernel
theorem dP_word_1 : decode cP_word 1 = .ok (.getfield 10, 3) := by decide +kernel
theorem dP_word_4 : decode cP_word 4 = .ok (.iload_n 1, 1) := by decide +kernel
theorem dP_word_5 : decode cP_word 5 = .ok (.invokevirtual 34, 3) := by decide +kernel
theorem dP_word_8 : decode cP_word 8 = .ok (.ifCond .ne 11, 3) := by decide +kernel
theorem dP_word_11 : decode cP_word 11 = .ok (.new 38, 3) := by decide +kernel
theorem dP_word_14 : decode cP_word 14 = .ok (.dup, 1) := by decide +kernel
theorem dP_word_15 : decode cP_word 15 = .ok (.invokespecial 40, 3) := by decide +kernel
theorem dP_word_18 : decode cP_word 18 = .ok (.athrow, 1) := by decide +kernel
theorem dP_word_19 : decode cP_word 19 = .ok (.lconst 0, 1) := by decide +kernel
theorem dP_word_20 : decode cP_word 20 = .ok (.lstore_n 2, 1) := by decide +kernel
theorem dP_word_21 : decode cP_word 21 = .ok (.iconst 0, 1) := by decide +kernel
theorem dP_word_22 : decode cP_word 22 = .ok (.istore 4, 2) := by decide +kernel
theorem dP_word_24 : decode cP_word 24 = .ok (.iload 4, 2) := by decide +kernel
theorem dP_word_26 : decode cP_word 26 = .ok (.bipush 8, 2) := by decide +kernel
theorem dP_word_28 : decode cP_word 28 = .ok (.if_icmp .ge 27, 3) := by decide +kernel
theorem dP_word_31 : decode cP_word 31 = .ok (.lload_n 2, 1) := by decide +kernel
theorem dP_word_32 : decode cP_word 32 = .ok (.bipush 8, 2) := by decide +kernel
theorem dP_word_34 : decode cP_word 34 = .ok (.lshl, 1) := by decide +kernel
theorem dP_word_35 : decode cP_word 35 = .ok (.aload_n 0, 1) := by decide +kernel
theorem dP_word_36 : decode cP_word 36 = .ok (.getfield 10, 3) := by decide +kernel
theorem dP_word_39 : decode cP_word 39 = .ok (.iload_n 1, 1) := by decide +kernel
theorem dP_word_40 : decode cP_word 40 = .ok (.iload 4, 2) := by decide +kernel
theorem dP_word_42 : decode cP_word 42 = .ok (.iadd, 1) := by decide +kernel
theorem dP_word_43 : decode cP_word 43 = .ok (.invokevirtual 41, 3) := by decide +kernel
theorem dP_word_46 : decode cP_word 46 = .ok (.i2l, 1) := by decide +kernel
theorem dP_word_47 : decode cP_word 47 = .ok (.lor, 1) := by decide +kernel
theorem dP_word_48 : decode cP_word 48 = .ok (.lstore_n 2, 1) := by decide +kernel
theorem dP_word_49 : decode cP_word 49 = .ok (.iinc 4 1, 3) := by decide +kernel
theorem dP_word_52 : decode cP_word 52 = .ok (.goto (-28), 3) := by decide +kernel
theorem dP_word_55 : decode cP_word 55 = .ok (.lload_n 2, 1) := by decide +kernel
theorem dP_word_56 : decode cP_word 56 = .ok (.lreturn, 1) := by decide +kernel
theorem dT_holds_0 : decode cT_holds 0 = .ok (.iload_n 1, 1) := by decide +kernel
theorem dT_holds_1 : decode cT_holds 1 = .ok (.ifCond .lt 15, 3) := by decide +kernel
theorem dT_holds_4 : decode cT_holds 4 = .ok (.iload_n 1, 1) := by decide +kernel
theorem dT_holds_5 : decode cT_holds 5 = .ok (.aload_n 0, 1) := by decide +kernel
theorem dT_holds_6 : decode cT_holds 6 = .ok (.getfield 13, 3) := by decide +kernel
theorem dT_holds_9 : decode cT_holds 9 = .ok (.if_icmp .ge 7, 3) := by decide +kernel
theorem dT_holds_12 : decode cT_holds 12 = .ok (.iconst 1, 1) := by decide +kernel
theorem dT_holds_13 : decode cT_holds 13 = .ok (.goto 4, 3) := by decide +kernel
theorem dT_holds_16 : decode cT_holds 16 = .ok (.iconst 0, 1) := by decide +kernel
theorem dT_holds_17 : decode cT_holds 17 = .ok (.ireturn, 1) := by decide +kernel
theorem dJT_init_0 : decode cJT_init 0 = .ok (.aload_n 0, 1) := by decide +kernel
theorem dJT_init_1 : decode cJT_init 1 = .ok (.invokespecial 1, 3) := by decide +kernel
theorem dJT_init_4 : decode cJT_init 4 = .ok (.aload_n 0, 1) := by decide +kernel
theorem dJT_init_5 : decode cJT_init 5 = .ok (.aload_n 0, 1) := by decide +kernel
theorem dJT_init_6 : decode cJT_init 6 = .ok (.putfield 7, 3) := by decide +kernel
theorem dJT_init_9 : decode cJT_init 9 = .ok (.aload_n 0, 1) := by decide +kernel
theorem dJT_init_10 : decode cJT_init 10 = .ok (.getstatic 13, 3) := by decide +kernel
theorem dJT_init_13 : decode cJT_init 13 = .ok (.putfield 17, 3) := by decide +kernel
theorem dJT_init_16 : decode cJT_init 16 = .ok (.aload_n 0, 1) := by decide +kernel
theorem dJT_init_17 : decode cJT_init 17 = .ok (.getstatic 20, 3) := by decide +kernel
theorem dJT_init_20 : decode cJT_init 20 = .ok (.putfield 24, 3) := by decide +kernel
theorem dJT_init_23 : decode cJT_init 23 = .ok (.aload_n 0, 1) := by decide +kernel
theorem dJT_init_24 : decode cJT_init 24 = .ok (.invokevirtual 27, 3) := by decide +kernel
theorem dJT_init_27 : decode cJT_init 27 = .ok (.pop, 1) := by decide +kernel
theorem dJT_init_28 : decode cJT_init 28 = .ok (.return_, 1) := by decide +kernel
theorem dJT_fillInStackTrace_0 : decode cJT_fillInStackTrace 0 = .ok (.aload_n 0, 1) := by decide +kernel
theorem dJT_fillInStackTrace_1 : decode cJT_fillInStackTrace 1 = .ok (.getfield 17, 3) := by decide +kernel
theorem dJT_fillInStackTrace_4 : decode cJT_fillInStackTrace 4 = .ok (.ifnonnull 10, 3) := by decide +kernel
theorem dJT_fillInStackTrace_7 : decode cJT_fillInStackTrace 7 = .ok (.aload_n 0, 1) := by decide +kernel
theorem dJT_fillInStackTrace_8 : decode cJT_fillInStackTrace 8 = .ok (.getfield 198, 3) := by decide +kernel
theorem dJT_fillInStackTrace_11 : decode cJT_fillInStackTrace 11 = .ok (.ifnull 16, 3) := by decide +kernel
theorem dJT_fillInStackTrace_14 : decode cJT_fillInStackTrace 14 = .ok (.aload_n 0, 1) := by decide +kernel
theorem dJT_fillInStackTrace_15 : decode cJT_fillInStackTrace 15 = .ok (.iconst 0, 1) := by decide +kernel
theorem dJT_fillInStackTrace_16 : decode cJT_fillInStackTrace 16 = .ok (.invokevirtual 202, 3) := by decide +kernel
theorem dJT_fillInStackTrace_19 : decode cJT_fillInStackTrace 19 = .ok (.pop, 1) := by decide +kernel
theorem dJT_fillInStackTrace_20 : decode cJT_fillInStackTrace 20 = .ok (.aload_n 0, 1) := by decide +kernel
theorem dJT_fillInStackTrace_21 : decode cJT_fillInStackTrace 21 = .ok (.getstatic 13, 3) := by decide +kernel
theorem dJT_fillInStackTrace_24 : decode cJT_fillInStackTrace 24 = .ok (.putfield 17, 3) := by decide +kernel
theorem dJT_fillInStackTrace_27 : decode cJT_fillInStackTrace 27 = .ok (.aload_n 0, 1) := by decide +kernel
theorem dJT_fillInStackTrace_28 : decode cJT_fillInStackTrace 28 = .ok (.areturn, 1) := by decide +kernel
theorem dJX_init_0 : decode cJX_init 0 = .ok (.aload_n 0, 1) := by decide +kernel
theorem dJX_init_1 : decode cJX_init 1 = .ok (.invokespecial 1, 3) := by decide +kernel
theorem dJX_init_4 : decode cJX_init 4 = .ok (.return_, 1) := by decide +kernel
theorem dJR_init_0 : decode cJR_init 0 = .ok (.aload_n 0, 1) := by decide +kernel
theorem dJR_init_1 : decode cJR_init 1 = .ok (.invokespecial 1, 3) := by decide +kernel
theorem dJR_init_4 : decode cJR_init 4 = .ok (.return_, 1) := by decide +kernel
theorem dJE_init_0 : decode cJE_init 0 = .ok (.aload_n 0, 1) := by decide +kernel
theorem dJE_init_1 : decode cJE_init 1 = .ok (.invokespecial 1, 3) := by decide +kernel
theorem dJE_init_4 : decode cJE_init 4 = .ok (.return_, 1) := by decide +kernel
theorem dT_letterOrZero_0 : decode cT_letterOrZero 0 = .ok (.aload_n 0, 1) := by decide +kernel
theorem dT_letterOrZero_1 : decode cT_letterOrZero 1 = .ok (.iload_n 1, 1) := by decide +kernel
theorem dT_letterOrZero_2 : decode cT_letterOrZero 2 = .ok (.invokevirtual 39, 3) := by decide +kernel
theorem dT_letterOrZero_5 : decode cT_letterOrZero 5 = .ok (.ifCond .eq 12, 3) := by decide +kernel
theorem dT_letterOrZero_8 : decode cT_letterOrZero 8 = .ok (.aload_n 0, 1) := by decide +kernel
theorem dT_letterOrZero_9 : decode cT_letterOrZero 9 = .ok (.getfield 9, 3) := by decide +kernel
theorem dT_letterOrZero_12 : decode cT_letterOrZero 12 = .ok (.iload_n 1, 1) := by decide +kernel
theorem dT_letterOrZero_13 : decode cT_letterOrZero 13 = .ok (.baload, 1) := by decide +kernel
theorem dT_letterOrZero_14 : decode cT_letterOrZero 14 = .ok (.goto 4, 3) := by decide +kernel
theorem dT_letterOrZero_17 : decode cT_letterOrZero 17 = .ok (.iconst 0, 1) := by decide +kernel
theorem dT_letterOrZero_18 : decode cT_letterOrZero 18 = .ok (.ireturn, 1) := by decide +kernel
theorem dM_init_0 : decode cM_init 0 = .ok (.aload_n 0, 1) := by decide +kernel
theorem dM_init_1 : decode cM_init 1 = .ok (.invokespecial 1, 3) := by decide +kernel
theorem dM_init_4 : decode cM_init 4 = .ok (.aload_n 0, 1) := by decide +kernel
theorem dM_init_5 : decode cM_init 5 = .ok (.bipush 64, 2) := by decide +kernel
theorem dM_init_7 : decode cM_init 7 = .ok (.newarray .byte, 2) := by decide +kernel
theorem dM_init_9 : decode cM_init 9 = .ok (.putfield 7, 3) := by decide +kernel
theorem dM_init_12 : decode cM_init 12 = .ok (.aload_n 0, 1) := by decide +kernel
theorem dM_init_13 : decode cM_init 13 = .ok (.sipush 160, 3) := by decide +kernel
theorem dM_init_16 : decode cM_init 16 = .ok (.newarray .long, 2) := by decide +kernel
theorem dM_init_18 : decode cM_init 18 = .ok (.putfield 13, 3) := by decide +kernel
theorem dM_init_21 : decode cM_init 21 = .ok (.aload_n 0, 1) := by decide +kernel
theorem dM_init_22 : decode cM_init 22 = .ok (.new 17, 3) := by decide +kernel
theorem dM_init_25 : decode cM_init 25 = .ok (.dup, 1) := by decide +kernel
theorem dM_init_26 : decode cM_init 26 = .ok (.invokespecial 19, 3) := by decide +kernel
theorem dM_init_29 : decode cM_init 29 = .ok (.putfield 20, 3) := by decide +kernel
theorem dM_init_32 : decode cM_init 32 = .ok (.aload_n 0, 1) := by decide +kernel
theorem dM_init_33 : decode cM_init 33 = .ok (.new 17, 3) := by decide +kernel
theorem dM_init_36 : decode cM_init 36 = .ok (.dup, 1) := by decide +kernel
theorem dM_init_37 : decode cM_init 37 = .ok (.invokespecial 19, 3) := by decide +kernel
theorem dM_init_40 : decode cM_init 40 = .ok (.putfield 24, 3) := by decide +kernel
theorem dM_init_43 : decode cM_init 43 = .ok (.aload_n 0, 1) := by decide +kernel
theorem dM_init_44 : decode cM_init 44 = .ok (.new 17, 3) := by decide +kernel
theorem dM_init_47 : decode cM_init 47 = .ok (.dup, 1) := by decide +kernel
theorem dM_init_48 : decode cM_init 48 = .ok (.invokespecial 19, 3) := by decide +kernel
theorem dM_init_51 : decode cM_init 51 = .ok (.putfield 27, 3) := by decide +kernel
theorem dM_init_54 : decode cM_init 54 = .ok (.aload_n 0, 1) := by decide +kernel
theorem dM_init_55 : decode cM_init 55 = .ok (.new 17, 3) := by decide +kernel
theorem dM_init_58 : decode cM_init 58 = .ok (.dup, 1) := by decide +kernel
theorem dM_init_59 : decode cM_init 59 = .ok (.invokespecial 19, 3) := by decide +kernel
theorem dM_init_62 : decode cM_init 62 = .ok (.putfield 30, 3) := by decide +kernel
theorem dM_init_65 : decode cM_init 65 = .ok (.aload_n 0, 1) := by decide +kernel
theorem dM_init_66 : decode cM_init 66 = .ok (.new 17, 3) := by decide +kernel
theorem dM_init_69 : decode cM_init 69 = .ok (.dup, 1) := by decide +kernel
theorem dM_init_70 : decode cM_init 70 = .ok (.invokespecial 19, 3) := by decide +kernel
theorem dM_init_73 : decode cM_init 73 = .ok (.putfield 33, 3) := by decide +kernel
theorem dM_init_76 : decode cM_init 76 = .ok (.aload_n 0, 1) := by decide +kernel
theorem dM_init_77 : decode cM_init 77 = .ok (.sipush 4096, 3) := by decide +kernel
theorem dM_init_80 : decode cM_init 80 = .ok (.newarray .byte, 2) := by decide +kernel
theorem dM_init_82 : decode cM_init 82 = .ok (.putfield 36, 3) := by decide +kernel
theorem dM_init_85 : decode cM_init 85 = .ok (.return_, 1) := by decide +kernel
theorem dW_init_0 : decode cW_init 0 = .ok (.aload_n 0, 1) := by decide +kernel
theorem dW_init_1 : decode cW_init 1 = .ok (.invokespecial 1, 3) := by decide +kernel
theorem dW_init_4 : decode cW_init 4 = .ok (.aload_n 0, 1) := by decide +kernel
theorem dW_init_5 : decode cW_init 5 = .ok (.sipush 1300, 3) := by decide +kernel
theorem dW_init_8 : decode cW_init 8 = .ok (.newarray .byte, 2) := by decide +kernel
theorem dW_init_10 : decode cW_init 10 = .ok (.putfield 7, 3) := by decide +kernel
theorem dW_init_13 : decode cW_init 13 = .ok (.return_, 1) := by decide +kernel
theorem dM_thrown_0 : decode cM_thrown 0 = .ok (.aload_n 0, 1) := by decide +kernel
theorem dM_thrown_1 : decode cM_thrown 1 = .ok (.getfield 39, 3) := by decide +kernel
theorem dM_thrown_4 : decode cM_thrown 4 = .ok (.ireturn, 1) := by decide +kernel
theorem dM_word_0 : decode cM_word 0 = .ok (.aload_n 0, 1) := by decide +kernel
theorem dM_word_1 : decode cM_word 1 = .ok (.iload_n 1, 1) := by decide +kernel
theorem dM_word_2 : decode cM_word 2 = .ok (.ifCond .lt 15, 3) := by decide +kernel
theorem dM_word_5 : decode cM_word 5 = .ok (.iload_n 1, 1) := by decide +kernel
theorem dM_word_6 : decode cM_word 6 = .ok (.aload_n 0, 1) := by decide +kernel
theorem dM_word_7 : decode cM_word 7 = .ok (.getfield 43, 3) := by decide +kernel
theorem dM_word_10 : decode cM_word 10 = .ok (.if_icmp .ge 7, 3) := by decide +kernel
theorem dM_word_13 : decode cM_word 13 = .ok (.iconst 1, 1) := by decide +kernel
theorem dM_word_14 : decode cM_word 14 = .ok (.goto 4, 3) := by decide +kernel
theorem dM_word_17 : decode cM_word 17 = .ok (.iconst 0, 1) := by decide +kernel
theorem dM_word_18 : decode cM_word 18 = .ok (.iconst 1, 1) := by decide +kernel
theorem dM_word_19 : decode cM_word 19 = .ok (.invokevirtual 46, 3) := by decide +kernel
theorem dM_word_22 : decode cM_word 22 = .ok (.ifCond .ne 5, 3) := by decide +kernel
theorem dM_word_25 : decode cM_word 25 = .ok (.lconst 0, 1) := by decide +kernel
theorem dM_word_26 : decode cM_word 26 = .ok (.lreturn, 1) := by decide +kernel
theorem dM_word_27 : decode cM_word 27 = .ok (.lconst 0, 1) := by decide +kernel
theorem dM_word_28 : decode cM_word 28 = .ok (.lstore_n 2, 1) := by decide +kernel
theorem dM_word_29 : decode cM_word 29 = .ok (.iload_n 1, 1) := by decide +kernel
theorem dM_word_30 : decode cM_word 30 = .ok (.istore 4, 2) := by decide +kernel
theorem dM_word_32 : decode cM_word 32 = .ok (.iload 4, 2) := by decide +kernel
theorem dM_word_34 : decode cM_word 34 = .ok (.iload_n 1, 1) := by decide +kernel
theorem dM_word_35 : decode cM_word 35 = .ok (.bipush 8, 2) := by decide +kernel
theorem dM_word_37 : decode cM_word 37 = .ok (.iadd, 1) := by decide +kernel
theorem dM_word_38 : decode cM_word 38 = .ok (.if_icmp .ge 40, 3) := by decide +kernel
theorem dM_word_41 : decode cM_word 41 = .ok (.lload_n 2, 1) := by decide +kernel
theorem dM_word_42 : decode cM_word 42 = .ok (.bipush 8, 2) := by decide +kernel
theorem dM_word_44 : decode cM_word 44 = .ok (.lshl, 1) := by decide +kernel
theorem dM_word_45 : decode cM_word 45 = .ok (.iload 4, 2) := by decide +kernel
theorem dM_word_47 : decode cM_word 47 = .ok (.aload_n 0, 1) := by decide +kernel
theorem dM_word_48 : decode cM_word 48 = .ok (.getfield 43, 3) := by decide +kernel
theorem dM_word_51 : decode cM_word 51 = .ok (.if_icmp .ge 18, 3) := by decide +kernel
theorem dM_word_54 : decode cM_word 54 = .ok (.aload_n 0, 1) := by decide +kernel
theorem dM_word_55 : decode cM_word 55 = .ok (.getfield 7, 3) := by decide +kernel
theorem dM_word_58 : decode cM_word 58 = .ok (.iload 4, 2) := by decide +kernel
theorem dM_word_60 : decode cM_word 60 = .ok (.baload, 1) := by decide +kernel
theorem dM_word_61 : decode cM_word 61 = .ok (.i2l, 1) := by decide +kernel
theorem dM_word_62 : decode cM_word 62 = .ok (.ldc2_w 50, 3) := by decide +kernel
theorem dM_word_65 : decode cM_word 65 = .ok (.land, 1) := by decide +kernel
theorem dM_word_66 : decode cM_word 66 = .ok (.goto 4, 3) := by decide +kernel
theorem dM_word_69 : decode cM_word 69 = .ok (.lconst 0, 1) := by decide +kernel
theorem dM_word_70 : decode cM_word 70 = .ok (.lor, 1) := by decide +kernel
theorem dM_word_71 : decode cM_word 71 = .ok (.lstore_n 2, 1) := by decide +kernel
theorem dM_word_72 : decode cM_word 72 = .ok (.iinc 4 1, 3) := by decide +kernel
theorem dM_word_75 : decode cM_word 75 = .ok (.goto (-43), 3) := by decide +kernel
theorem dM_word_78 : decode cM_word 78 = .ok (.lload_n 2, 1) := by decide +kernel
theorem dM_word_79 : decode cM_word 79 = .ok (.lreturn, 1) := by decide +kernel
theorem dM_good_0 : decode cM_good 0 = .ok (.aload_n 0, 1) := by decide +kernel
theorem dM_good_1 : decode cM_good 1 = .ok (.iload_n 1, 1) := by decide +kernel
theorem dM_good_2 : decode cM_good 2 = .ok (.ifCond .eq 7, 3) := by decide +kernel
theorem dM_good_5 : decode cM_good 5 = .ok (.iconst 0, 1) := by decide +kernel
theorem dM_good_6 : decode cM_good 6 = .ok (.goto 4, 3) := by decide +kernel
theorem dM_good_9 : decode cM_good 9 = .ok (.iload_n 2, 1) := by decide +kernel
theorem dM_good_10 : decode cM_good 10 = .ok (.putfield 39, 3) := by decide +kernel
theorem dM_good_13 : decode cM_good 13 = .ok (.iload_n 1, 1) := by decide +kernel
theorem dM_good_14 : decode cM_good 14 = .ok (.ireturn, 1) := by decide +kernel
theorem dM_print_0 : decode cM_print 0 = .ok (.aload_n 0, 1) := by decide +kernel
theorem dM_print_1 : decode cM_print 1 = .ok (.iconst 0, 1) := by decide +kernel
theorem dM_print_2 : decode cM_print 2 = .ok (.putfield 39, 3) := by decide +kernel
theorem dM_print_5 : decode cM_print 5 = .ok (.aload_n 0, 1) := by decide +kernel
theorem dM_print_6 : decode cM_print 6 = .ok (.iconst 1, 1) := by decide +kernel
theorem dM_print_7 : decode cM_print 7 = .ok (.invokevirtual 191, 3) := by decide +kernel
theorem dM_print_10 : decode cM_print 10 = .ok (.aload_n 0, 1) := by decide +kernel
theorem dM_print_11 : decode cM_print 11 = .ok (.iconst 0, 1) := by decide +kernel
theorem dM_print_12 : decode cM_print 12 = .ok (.putfield 133, 3) := by decide +kernel
theorem dM_print_15 : decode cM_print 15 = .ok (.aload_n 0, 1) := by decide +kernel
theorem dM_print_16 : decode cM_print 16 = .ok (.lload_n 1, 1) := by decide +kernel
theorem dM_print_17 : decode cM_print 17 = .ok (.invokevirtual 195, 3) := by decide +kernel
theorem dM_print_20 : decode cM_print 20 = .ok (.aload_n 0, 1) := by decide +kernel
theorem dM_print_21 : decode cM_print 21 = .ok (.invokevirtual 198, 3) := by decide +kernel
theorem dM_print_24 : decode cM_print 24 = .ok (.ireturn, 1) := by decide +kernel
theorem dM_kind_0 : decode cM_kind 0 = .ok (.aload_n 0, 1) := by decide +kernel
theorem dM_kind_1 : decode cM_kind 1 = .ok (.iload_n 1, 1) := by decide +kernel
theorem dM_kind_2 : decode cM_kind 2 = .ok (.ifCond .eq 8, 3) := by decide +kernel
theorem dM_kind_5 : decode cM_kind 5 = .ok (.bipush 53, 2) := by decide +kernel
theorem dM_kind_7 : decode cM_kind 7 = .ok (.goto 5, 3) := by decide +kernel
theorem dM_kind_10 : decode cM_kind 10 = .ok (.bipush 24, 2) := by decide +kernel
theorem dM_kind_12 : decode cM_kind 12 = .ok (.putfield 52, 3) := by decide +kernel
theorem dM_kind_15 : decode cM_kind 15 = .ok (.aload_n 0, 1) := by decide +kernel
theorem dM_kind_16 : decode cM_kind 16 = .ok (.iload_n 1, 1) := by decide +kernel
theorem dM_kind_17 : decode cM_kind 17 = .ok (.ifCond .eq 9, 3) := by decide +kernel
theorem dM_kind_20 : decode cM_kind 20 = .ok (.sipush (-1074), 3) := by decide +kernel
theorem dM_kind_23 : decode cM_kind 23 = .ok (.goto 6, 3) := by decide +kernel
theorem dM_kind_26 : decode cM_kind 26 = .ok (.sipush (-149), 3) := by decide +kernel
theorem dM_kind_29 : decode cM_kind 29 = .ok (.putfield 55, 3) := by decide +kernel
theorem dM_kind_32 : decode cM_kind 32 = .ok (.return_, 1) := by decide +kernel
theorem dM_printed_0 : decode cM_printed 0 = .ok (.lload_n 1, 1) := by decide +kernel
theorem dM_printed_1 : decode cM_printed 1 = .ok (.aload_n 0, 1) := by decide +kernel
theorem dM_printed_2 : decode cM_printed 2 = .ok (.invokevirtual 158, 3) := by decide +kernel
theorem dM_printed_5 : decode cM_printed 5 = .ok (.ldc2_w 161, 3) := by decide +kernel
theorem dM_printed_8 : decode cM_printed 8 = .ok (.lxor, 1) := by decide +kernel
theorem dM_printed_9 : decode cM_printed 9 = .ok (.land, 1) := by decide +kernel
theorem dM_printed_10 : decode cM_printed 10 = .ok (.aload_n 0, 1) := by decide +kernel
theorem dM_printed_11 : decode cM_printed 11 = .ok (.getfield 52, 3) := by decide +kernel
theorem dM_printed_14 : decode cM_printed 14 = .ok (.bipush 53, 2) := by decide +kernel
theorem dM_printed_16 : decode cM_printed 16 = .ok (.if_icmp .ne 9, 3) := by decide +kernel
theorem dM_printed_19 : decode cM_printed 19 = .ok (.ldc2_w 161, 3) := by decide +kernel
theorem dM_printed_22 : decode cM_printed 22 = .ok (.goto 6, 3) := by decide +kernel
theorem dM_printed_25 : decode cM_printed 25 = .ok (.ldc2_w 163, 3) := by decide +kernel
theorem dM_printed_28 : decode cM_printed 28 = .ok (.land, 1) := by decide +kernel
theorem dM_printed_29 : decode cM_printed 29 = .ok (.lstore_n 3, 1) := by decide +kernel
theorem dM_printed_30 : decode cM_printed 30 = .ok (.aload_n 0, 1) := by decide +kernel
theorem dM_printed_31 : decode cM_printed 31 = .ok (.lload_n 3, 1) := by decide +kernel
theorem dM_printed_32 : decode cM_printed 32 = .ok (.invokevirtual 165, 3) := by decide +kernel
theorem dM_printed_35 : decode cM_printed 35 = .ok (.ifCond .eq 10, 3) := by decide +kernel
theorem dM_printed_38 : decode cM_printed 38 = .ok (.aload_n 0, 1) := by decide +kernel
theorem dM_printed_39 : decode cM_printed 39 = .ok (.ldc 169, 2) := by decide +kernel
theorem dM_printed_41 : decode cM_printed 41 = .ok (.invokevirtual 155, 3) := by decide +kernel
theorem dM_printed_44 : decode cM_printed 44 = .ok (.return_, 1) := by decide +kernel
theorem dM_printed_45 : decode cM_printed 45 = .ok (.lload_n 1, 1) := by decide +kernel
theorem dM_printed_46 : decode cM_printed 46 = .ok (.aload_n 0, 1) := by decide +kernel
theorem dM_printed_47 : decode cM_printed 47 = .ok (.invokevirtual 158, 3) := by decide +kernel
theorem dM_printed_50 : decode cM_printed 50 = .ok (.land, 1) := by decide +kernel
theorem dM_printed_51 : decode cM_printed 51 = .ok (.lconst 0, 1) := by decide +kernel
theorem dM_printed_52 : decode cM_printed 52 = .ok (.lcmp, 1) := by decide +kernel
theorem dM_printed_53 : decode cM_printed 53 = .ok (.ifCond .eq 9, 3) := by decide +kernel
theorem dM_printed_56 : decode cM_printed 56 = .ok (.aload_n 0, 1) := by decide +kernel
theorem dM_printed_57 : decode cM_printed 57 = .ok (.bipush 45, 2) := by decide +kernel
theorem dM_printed_59 : decode cM_printed 59 = .ok (.invokevirtual 145, 3) := by decide +kernel
theorem dM_printed_62 : decode cM_printed 62 = .ok (.lload_n 3, 1) := by decide +kernel
theorem dM_printed_63 : decode cM_printed 63 = .ok (.aload_n 0, 1) := by decide +kernel
theorem dM_printed_64 : decode cM_printed 64 = .ok (.invokevirtual 66, 3) := by decide +kernel
theorem dM_printed_67 : decode cM_printed 67 = .ok (.lcmp, 1) := by decide +kernel
theorem dM_printed_68 : decode cM_printed 68 = .ok (.ifCond .ne 12, 3) := by decide +kernel
theorem dM_printed_71 : decode cM_printed 71 = .ok (.aload_n 0, 1) := by decide +kernel
theorem dM_printed_72 : decode cM_printed 72 = .ok (.ldc 171, 2) := by decide +kernel
theorem dM_printed_74 : decode cM_printed 74 = .ok (.invokevirtual 155, 3) := by decide +kernel
theorem dM_printed_77 : decode cM_printed 77 = .ok (.goto 58, 3) := by decide +kernel
theorem dM_printed_80 : decode cM_printed 80 = .ok (.lload_n 3, 1) := by decide +kernel
theorem dM_printed_81 : decode cM_printed 81 = .ok (.lconst 0, 1) := by decide +kernel
theorem dM_printed_82 : decode cM_printed 82 = .ok (.lcmp, 1) := by decide +kernel
theorem dM_printed_83 : decode cM_printed 83 = .ok (.ifCond .ne 12, 3) := by decide +kernel
theorem dM_printed_86 : decode cM_printed 86 = .ok (.aload_n 0, 1) := by decide +kernel
theorem dM_printed_87 : decode cM_printed 87 = .ok (.ldc 173, 2) := by decide +kernel
theorem dM_printed_89 : decode cM_printed 89 = .ok (.invokevirtual 155, 3) := by decide +kernel
theorem dM_printed_92 : decode cM_printed 92 = .ok (.goto 43, 3) := by decide +kernel
theorem dM_printed_95 : decode cM_printed 95 = .ok (.aload_n 0, 1) := by decide +kernel
theorem dM_printed_96 : decode cM_printed 96 = .ok (.lload_n 3, 1) := by decide +kernel
theorem dM_printed_97 : decode cM_printed 97 = .ok (.invokevirtual 175, 3) := by decide +kernel
theorem dM_printed_100 : decode cM_printed 100 = .ok (.aload_n 0, 1) := by decide +kernel
theorem dM_printed_101 : decode cM_printed 101 = .ok (.getfield 30, 3) := by decide +kernel
theorem dM_printed_104 : decode cM_printed 104 = .ok (.getfield 98, 3) := by decide +kernel
theorem dM_printed_107 : decode cM_printed 107 = .ok (.bipush (-2), 2) := by decide +kernel
theorem dM_printed_109 : decode cM_printed 109 = .ok (.if_icmp .lt 22, 3) := by decide +kernel
theorem dM_printed_112 : decode cM_printed 112 = .ok (.aload_n 0, 1) := by decide +kernel
theorem dM_printed_113 : decode cM_printed 113 = .ok (.getfield 30, 3) := by decide +kernel
theorem dM_printed_116 : decode cM_printed 116 = .ok (.getfield 98, 3) := by decide +kernel
theorem dM_printed_119 : decode cM_printed 119 = .ok (.bipush 7, 2) := by decide +kernel
theorem dM_printed_121 : decode cM_printed 121 = .ok (.if_icmp .gt 10, 3) := by decide +kernel
theorem dM_printed_124 : decode cM_printed 124 = .ok (.aload_n 0, 1) := by decide +kernel
theorem dM_printed_125 : decode cM_printed 125 = .ok (.invokevirtual 178, 3) := by decide +kernel
theorem dM_printed_128 : decode cM_printed 128 = .ok (.goto 7, 3) := by decide +kernel
theorem dM_printed_131 : decode cM_printed 131 = .ok (.aload_n 0, 1) := by decide +kernel
theorem dM_printed_132 : decode cM_printed 132 = .ok (.invokevirtual 181, 3) := by decide +kernel
theorem dM_printed_135 : decode cM_printed 135 = .ok (.return_, 1) := by decide +kernel
theorem dM_sign_0 : decode cM_sign 0 = .ok (.aload_n 0, 1) := by decide +kernel
theorem dM_sign_1 : decode cM_sign 1 = .ok (.getfield 52, 3) := by decide +kernel
theorem dM_sign_4 : decode cM_sign 4 = .ok (.bipush 53, 2) := by decide +kernel
theorem dM_sign_6 : decode cM_sign 6 = .ok (.if_icmp .ne 9, 3) := by decide +kernel
theorem dM_sign_9 : decode cM_sign 9 = .ok (.ldc2_w 62, 3) := by decide +kernel
theorem dM_sign_12 : decode cM_sign 12 = .ok (.goto 6, 3) := by decide +kernel
theorem dM_sign_15 : decode cM_sign 15 = .ok (.ldc2_w 64, 3) := by decide +kernel
theorem dM_sign_18 : decode cM_sign 18 = .ok (.lreturn, 1) := by decide +kernel
theorem dM_isNone_0 : decode cM_isNone 0 = .ok (.lload_n 1, 1) := by decide +kernel
theorem dM_isNone_1 : decode cM_isNone 1 = .ok (.aload_n 0, 1) := by decide +kernel
theorem dM_isNone_2 : decode cM_isNone 2 = .ok (.invokevirtual 66, 3) := by decide +kernel
theorem dM_isNone_5 : decode cM_isNone 5 = .ok (.lcmp, 1) := by decide +kernel
theorem dM_isNone_6 : decode cM_isNone 6 = .ok (.ifCond .le 7, 3) := by decide +kernel
theorem dM_isNone_9 : decode cM_isNone 9 = .ok (.iconst 1, 1) := by decide +kernel
theorem dM_isNone_10 : decode cM_isNone 10 = .ok (.goto 4, 3) := by decide +kernel
theorem dM_isNone_13 : decode cM_isNone 13 = .ok (.iconst 0, 1) := by decide +kernel
theorem dM_isNone_14 : decode cM_isNone 14 = .ok (.ireturn, 1) := by decide +kernel
theorem dM_infinity_0 : decode cM_infinity 0 = .ok (.aload_n 0, 1) := by decide +kernel
theorem dM_infinity_1 : decode cM_infinity 1 = .ok (.getfield 52, 3) := by decide +kernel
theorem dM_infinity_4 : decode cM_infinity 4 = .ok (.bipush 53, 2) := by decide +kernel
theorem dM_infinity_6 : decode cM_infinity 6 = .ok (.if_icmp .ne 9, 3) := by decide +kernel
theorem dM_infinity_9 : decode cM_infinity 9 = .ok (.ldc2_w 58, 3) := by decide +kernel
theorem dM_infinity_12 : decode cM_infinity 12 = .ok (.goto 6, 3) := by decide +kernel
theorem dM_infinity_15 : decode cM_infinity 15 = .ok (.ldc2_w 60, 3) := by decide +kernel
theorem dM_infinity_18 : decode cM_infinity 18 = .ok (.lreturn, 1) := by decide +kernel
theorem dM_put_0 : decode cM_put 0 = .ok (.iconst 0, 1) := by decide +kernel
theorem dM_put_1 : decode cM_put 1 = .ok (.istore_n 2, 1) := by decide +kernel
theorem dM_put_2 : decode cM_put 2 = .ok (.iload_n 2, 1) := by decide +kernel
theorem dM_put_3 : decode cM_put 3 = .ok (.aload_n 1, 1) := by decide +kernel
theorem dM_put_4 : decode cM_put 4 = .ok (.invokevirtual 136, 3) := by decide +kernel
theorem dM_put_7 : decode cM_put 7 = .ok (.if_icmp .ge 18, 3) := by decide +kernel
theorem dM_put_10 : decode cM_put 10 = .ok (.aload_n 0, 1) := by decide +kernel
theorem dM_put_11 : decode cM_put 11 = .ok (.aload_n 1, 1) := by decide +kernel
theorem dM_put_12 : decode cM_put 12 = .ok (.iload_n 2, 1) := by decide +kernel
theorem dM_put_13 : decode cM_put 13 = .ok (.invokevirtual 141, 3) := by decide +kernel
theorem dM_put_16 : decode cM_put 16 = .ok (.invokevirtual 145, 3) := by decide +kernel
theorem dM_put_19 : decode cM_put 19 = .ok (.iinc 2 1, 3) := by decide +kernel
theorem dM_put_22 : decode cM_put 22 = .ok (.goto (-20), 3) := by decide +kernel
theorem dM_put_25 : decode cM_put 25 = .ok (.return_, 1) := by decide +kernel
theorem dM_putx_0 : decode cM_putx 0 = .ok (.aload_n 0, 1) := by decide +kernel
theorem dM_putx_1 : decode cM_putx 1 = .ok (.getfield 133, 3) := by decide +kernel
theorem dM_putx_4 : decode cM_putx 4 = .ok (.aload_n 0, 1) := by decide +kernel
theorem dM_putx_5 : decode cM_putx 5 = .ok (.getfield 36, 3) := by decide +kernel
theorem dM_putx_8 : decode cM_putx 8 = .ok (.arraylength, 1) := by decide +kernel
theorem dM_putx_9 : decode cM_putx 9 = .ok (.if_icmp .ne 42, 3) := by decide +kernel
theorem dM_putx_12 : decode cM_putx 12 = .ok (.iconst 2, 1) := by decide +kernel
theorem dM_putx_13 : decode cM_putx 13 = .ok (.aload_n 0, 1) := by decide +kernel
theorem dM_putx_14 : decode cM_putx 14 = .ok (.getfield 133, 3) := by decide +kernel
theorem dM_putx_17 : decode cM_putx 17 = .ok (.imul, 1) := by decide +kernel
theorem dM_putx_18 : decode cM_putx 18 = .ok (.newarray .byte, 2) := by decide +kernel
theorem dM_putx_20 : decode cM_putx 20 = .ok (.astore_n 2, 1) := by decide +kernel
theorem dM_putx_21 : decode cM_putx 21 = .ok (.iconst 0, 1) := by decide +kernel
theorem dM_putx_22 : decode cM_putx 22 = .ok (.istore_n 3, 1) := by decide +kernel
theorem dM_putx_23 : decode cM_putx 23 = .ok (.iload_n 3, 1) := by decide +kernel
theorem dM_putx_24 : decode cM_putx 24 = .ok (.aload_n 0, 1) := by decide +kernel
theorem dM_putx_25 : decode cM_putx 25 = .ok (.getfield 133, 3) := by decide +kernel
theorem dM_putx_28 : decode cM_putx 28 = .ok (.if_icmp .ge 18, 3) := by decide +kernel
theorem dM_putx_31 : decode cM_putx 31 = .ok (.aload_n 2, 1) := by decide +kernel
theorem dM_putx_32 : decode cM_putx 32 = .ok (.iload_n 3, 1) := by decide +kernel
theorem dM_putx_33 : decode cM_putx 33 = .ok (.aload_n 0, 1) := by decide +kernel
theorem dM_putx_34 : decode cM_putx 34 = .ok (.getfield 36, 3) := by decide +kernel
theorem dM_putx_37 : decode cM_putx 37 = .ok (.iload_n 3, 1) := by decide +kernel
theorem dM_putx_38 : decode cM_putx 38 = .ok (.baload, 1) := by decide +kernel
theorem dM_putx_39 : decode cM_putx 39 = .ok (.bastore, 1) := by decide +kernel
theorem dM_putx_40 : decode cM_putx 40 = .ok (.iinc 3 1, 3) := by decide +kernel
theorem dM_putx_43 : decode cM_putx 43 = .ok (.goto (-20), 3) := by decide +kernel
theorem dM_putx_46 : decode cM_putx 46 = .ok (.aload_n 0, 1) := by decide +kernel
theorem dM_putx_47 : decode cM_putx 47 = .ok (.aload_n 2, 1) := by decide +kernel
theorem dM_putx_48 : decode cM_putx 48 = .ok (.putfield 36, 3) := by decide +kernel
theorem dM_putx_51 : decode cM_putx 51 = .ok (.aload_n 0, 1) := by decide +kernel
theorem dM_putx_52 : decode cM_putx 52 = .ok (.getfield 36, 3) := by decide +kernel
theorem dM_putx_55 : decode cM_putx 55 = .ok (.aload_n 0, 1) := by decide +kernel
theorem dM_putx_56 : decode cM_putx 56 = .ok (.getfield 133, 3) := by decide +kernel
theorem dM_putx_59 : decode cM_putx 59 = .ok (.iload_n 1, 1) := by decide +kernel
theorem dM_putx_60 : decode cM_putx 60 = .ok (.i2b, 1) := by decide +kernel
theorem dM_putx_61 : decode cM_putx 61 = .ok (.bastore, 1) := by decide +kernel
theorem dM_putx_62 : decode cM_putx 62 = .ok (.aload_n 0, 1) := by decide +kernel
theorem dM_putx_63 : decode cM_putx 63 = .ok (.dup, 1) := by decide +kernel
theorem dM_putx_64 : decode cM_putx 64 = .ok (.getfield 133, 3) := by decide +kernel
theorem dM_putx_67 : decode cM_putx 67 = .ok (.iconst 1, 1) := by decide +kernel
theorem dM_putx_68 : decode cM_putx 68 = .ok (.iadd, 1) := by decide +kernel
theorem dM_putx_69 : decode cM_putx 69 = .ok (.putfield 133, 3) := by decide +kernel
theorem dM_putx_72 : decode cM_putx 72 = .ok (.return_, 1) := by decide +kernel
theorem dM_shortest_0 : decode cM_shortest 0 = .ok (.aload_n 0, 1) := by decide +kernel
theorem dM_shortest_1 : decode cM_shortest 1 = .ok (.lload_n 1, 1) := by decide +kernel
theorem dM_shortest_2 : decode cM_shortest 2 = .ok (.invokevirtual 109, 3) := by decide +kernel
theorem dM_shortest_5 : decode cM_shortest 5 = .ok (.lstore_n 3, 1) := by decide +kernel
theorem dM_shortest_6 : decode cM_shortest 6 = .ok (.aload_n 0, 1) := by decide +kernel
theorem dM_shortest_7 : decode cM_shortest 7 = .ok (.lload_n 1, 1) := by decide +kernel
theorem dM_shortest_8 : decode cM_shortest 8 = .ok (.invokevirtual 113, 3) := by decide +kernel
theorem dM_shortest_11 : decode cM_shortest 11 = .ok (.istore 5, 2) := by decide +kernel
theorem dM_shortest_13 : decode cM_shortest 13 = .ok (.aload_n 0, 1) := by decide +kernel
theorem dM_shortest_14 : decode cM_shortest 14 = .ok (.lload_n 3, 1) := by decide +kernel
theorem dM_shortest_15 : decode cM_shortest 15 = .ok (.iload 5, 2) := by decide +kernel
theorem dM_shortest_17 : decode cM_shortest 17 = .ok (.aload_n 0, 1) := by decide +kernel
theorem dM_shortest_18 : decode cM_shortest 18 = .ok (.getfield 20, 3) := by decide +kernel
theorem dM_shortest_21 : decode cM_shortest 21 = .ok (.invokevirtual 117, 3) := by decide +kernel
theorem dM_shortest_24 : decode cM_shortest 24 = .ok (.aload_n 0, 1) := by decide +kernel
theorem dM_shortest_25 : decode cM_shortest 25 = .ok (.ldc2_w 121, 3) := by decide +kernel
theorem dM_shortest_28 : decode cM_shortest 28 = .ok (.lload_n 3, 1) := by decide +kernel
theorem dM_shortest_29 : decode cM_shortest 29 = .ok (.lmul, 1) := by decide +kernel
theorem dM_shortest_30 : decode cM_shortest 30 = .ok (.lconst 1, 1) := by decide +kernel
theorem dM_shortest_31 : decode cM_shortest 31 = .ok (.ladd, 1) := by decide +kernel
theorem dM_shortest_32 : decode cM_shortest 32 = .ok (.iload 5, 2) := by decide +kernel
theorem dM_shortest_34 : decode cM_shortest 34 = .ok (.iconst 1, 1) := by decide +kernel
theorem dM_shortest_35 : decode cM_shortest 35 = .ok (.isub, 1) := by decide +kernel
theorem dM_shortest_36 : decode cM_shortest 36 = .ok (.aload_n 0, 1) := by decide +kernel
theorem dM_shortest_37 : decode cM_shortest 37 = .ok (.getfield 27, 3) := by decide +kernel
theorem dM_shortest_40 : decode cM_shortest 40 = .ok (.invokevirtual 117, 3) := by decide +kernel
theorem dM_shortest_43 : decode cM_shortest 43 = .ok (.lload_n 3, 1) := by decide +kernel
theorem dM_shortest_44 : decode cM_shortest 44 = .ok (.aload_n 0, 1) := by decide +kernel
theorem dM_shortest_45 : decode cM_shortest 45 = .ok (.invokevirtual 70, 3) := by decide +kernel
theorem dM_shortest_48 : decode cM_shortest 48 = .ok (.lconst 1, 1) := by decide +kernel
theorem dM_shortest_49 : decode cM_shortest 49 = .ok (.ladd, 1) := by decide +kernel
theorem dM_shortest_50 : decode cM_shortest 50 = .ok (.lcmp, 1) := by decide +kernel
theorem dM_shortest_51 : decode cM_shortest 51 = .ok (.ifCond .ne 34, 3) := by decide +kernel
theorem dM_shortest_54 : decode cM_shortest 54 = .ok (.iload 5, 2) := by decide +kernel
theorem dM_shortest_56 : decode cM_shortest 56 = .ok (.aload_n 0, 1) := by decide +kernel
theorem dM_shortest_57 : decode cM_shortest 57 = .ok (.getfield 55, 3) := by decide +kernel
theorem dM_shortest_60 : decode cM_shortest 60 = .ok (.if_icmp .le 25, 3) := by decide +kernel
theorem dM_shortest_63 : decode cM_shortest 63 = .ok (.aload_n 0, 1) := by decide +kernel
theorem dM_shortest_64 : decode cM_shortest 64 = .ok (.ldc2_w 123, 3) := by decide +kernel
theorem dM_shortest_67 : decode cM_shortest 67 = .ok (.lload_n 3, 1) := by decide +kernel
theorem dM_shortest_68 : decode cM_shortest 68 = .ok (.lmul, 1) := by decide +kernel
theorem dM_shortest_69 : decode cM_shortest 69 = .ok (.lconst 1, 1) := by decide +kernel
theorem dM_shortest_70 : decode cM_shortest 70 = .ok (.lsub, 1) := by decide +kernel
theorem dM_shortest_71 : decode cM_shortest 71 = .ok (.iload 5, 2) := by decide +kernel
theorem dM_shortest_73 : decode cM_shortest 73 = .ok (.iconst 2, 1) := by decide +kernel
theorem dM_shortest_74 : decode cM_shortest 74 = .ok (.isub, 1) := by decide +kernel
theorem dM_shortest_75 : decode cM_shortest 75 = .ok (.aload_n 0, 1) := by decide +kernel
theorem dM_shortest_76 : decode cM_shortest 76 = .ok (.getfield 24, 3) := by decide +kernel
theorem dM_shortest_79 : decode cM_shortest 79 = .ok (.invokevirtual 117, 3) := by decide +kernel
theorem dM_shortest_82 : decode cM_shortest 82 = .ok (.goto 22, 3) := by decide +kernel
theorem dM_shortest_85 : decode cM_shortest 85 = .ok (.aload_n 0, 1) := by decide +kernel
theorem dM_shortest_86 : decode cM_shortest 86 = .ok (.ldc2_w 121, 3) := by decide +kernel
theorem dM_shortest_89 : decode cM_shortest 89 = .ok (.lload_n 3, 1) := by decide +kernel
theorem dM_shortest_90 : decode cM_shortest 90 = .ok (.lmul, 1) := by decide +kernel
theorem dM_shortest_91 : decode cM_shortest 91 = .ok (.lconst 1, 1) := by decide +kernel
theorem dM_shortest_92 : decode cM_shortest 92 = .ok (.lsub, 1) := by decide +kernel
theorem dM_shortest_93 : decode cM_shortest 93 = .ok (.iload 5, 2) := by decide +kernel
theorem dM_shortest_95 : decode cM_shortest 95 = .ok (.iconst 1, 1) := by decide +kernel
theorem dM_shortest_96 : decode cM_shortest 96 = .ok (.isub, 1) := by decide +kernel
theorem dM_shortest_97 : decode cM_shortest 97 = .ok (.aload_n 0, 1) := by decide +kernel
theorem dM_shortest_98 : decode cM_shortest 98 = .ok (.getfield 24, 3) := by decide +kernel
theorem dM_shortest_101 : decode cM_shortest 101 = .ok (.invokevirtual 117, 3) := by decide +kernel
theorem dM_shortest_104 : decode cM_shortest 104 = .ok (.iconst 1, 1) := by decide +kernel
theorem dM_shortest_105 : decode cM_shortest 105 = .ok (.istore 6, 2) := by decide +kernel
theorem dM_shortest_107 : decode cM_shortest 107 = .ok (.aload_n 0, 1) := by decide +kernel
theorem dM_shortest_108 : decode cM_shortest 108 = .ok (.iload 6, 2) := by decide +kernel
theorem dM_shortest_110 : decode cM_shortest 110 = .ok (.iconst 0, 1) := by decide +kernel
theorem dM_shortest_111 : decode cM_shortest 111 = .ok (.aload_n 0, 1) := by decide +kernel
theorem dM_shortest_112 : decode cM_shortest 112 = .ok (.getfield 30, 3) := by decide +kernel
theorem dM_shortest_115 : decode cM_shortest 115 = .ok (.invokevirtual 125, 3) := by decide +kernel
theorem dM_shortest_118 : decode cM_shortest 118 = .ok (.aload_n 0, 1) := by decide +kernel
theorem dM_shortest_119 : decode cM_shortest 119 = .ok (.iload 6, 2) := by decide +kernel
theorem dM_shortest_121 : decode cM_shortest 121 = .ok (.iconst 1, 1) := by decide +kernel
theorem dM_shortest_122 : decode cM_shortest 122 = .ok (.aload_n 0, 1) := by decide +kernel
theorem dM_shortest_123 : decode cM_shortest 123 = .ok (.getfield 33, 3) := by decide +kernel
theorem dM_shortest_126 : decode cM_shortest 126 = .ok (.invokevirtual 125, 3) := by decide +kernel
theorem dM_shortest_129 : decode cM_shortest 129 = .ok (.aload_n 0, 1) := by decide +kernel
theorem dM_shortest_130 : decode cM_shortest 130 = .ok (.aload_n 0, 1) := by decide +kernel
theorem dM_shortest_131 : decode cM_shortest 131 = .ok (.getfield 30, 3) := by decide +kernel
theorem dM_shortest_134 : decode cM_shortest 134 = .ok (.lload_n 3, 1) := by decide +kernel
theorem dM_shortest_135 : decode cM_shortest 135 = .ok (.invokevirtual 129, 3) := by decide +kernel
theorem dM_shortest_138 : decode cM_shortest 138 = .ok (.ifCond .ne 24, 3) := by decide +kernel
theorem dM_shortest_141 : decode cM_shortest 141 = .ok (.aload_n 0, 1) := by decide +kernel
theorem dM_shortest_142 : decode cM_shortest 142 = .ok (.aload_n 0, 1) := by decide +kernel
theorem dM_shortest_143 : decode cM_shortest 143 = .ok (.getfield 33, 3) := by decide +kernel
theorem dM_shortest_146 : decode cM_shortest 146 = .ok (.lload_n 3, 1) := by decide +kernel
theorem dM_shortest_147 : decode cM_shortest 147 = .ok (.invokevirtual 129, 3) := by decide +kernel
theorem dM_shortest_150 : decode cM_shortest 150 = .ok (.ifCond .eq 6, 3) := by decide +kernel
theorem dM_shortest_153 : decode cM_shortest 153 = .ok (.goto 9, 3) := by decide +kernel
theorem dM_shortest_156 : decode cM_shortest 156 = .ok (.iinc 6 1, 3) := by decide +kernel
theorem dM_shortest_159 : decode cM_shortest 159 = .ok (.goto (-52), 3) := by decide +kernel
theorem dM_shortest_162 : decode cM_shortest 162 = .ok (.iload 6, 2) := by decide +kernel
theorem dM_shortest_164 : decode cM_shortest 164 = .ok (.iconst 1, 1) := by decide +kernel
theorem dM_shortest_165 : decode cM_shortest 165 = .ok (.if_icmp .ne 6, 3) := by decide +kernel
theorem dM_shortest_168 : decode cM_shortest 168 = .ok (.iconst 2, 1) := by decide +kernel
theorem dM_shortest_169 : decode cM_shortest 169 = .ok (.istore 6, 2) := by decide +kernel
theorem dM_shortest_171 : decode cM_shortest 171 = .ok (.aload_n 0, 1) := by decide +kernel
theorem dM_shortest_172 : decode cM_shortest 172 = .ok (.iload 6, 2) := by decide +kernel
theorem dM_shortest_174 : decode cM_shortest 174 = .ok (.iconst 0, 1) := by decide +kernel
theorem dM_shortest_175 : decode cM_shortest 175 = .ok (.aload_n 0, 1) := by decide +kernel
theorem dM_shortest_176 : decode cM_shortest 176 = .ok (.getfield 30, 3) := by decide +kernel
theorem dM_shortest_179 : decode cM_shortest 179 = .ok (.invokevirtual 125, 3) := by decide +kernel
theorem dM_shortest_182 : decode cM_shortest 182 = .ok (.aload_n 0, 1) := by decide +kernel
theorem dM_shortest_183 : decode cM_shortest 183 = .ok (.iload 6, 2) := by decide +kernel
theorem dM_shortest_185 : decode cM_shortest 185 = .ok (.iconst 1, 1) := by decide +kernel
theorem dM_shortest_186 : decode cM_shortest 186 = .ok (.aload_n 0, 1) := by decide +kernel
theorem dM_shortest_187 : decode cM_shortest 187 = .ok (.getfield 33, 3) := by decide +kernel
theorem dM_shortest_190 : decode cM_shortest 190 = .ok (.invokevirtual 125, 3) := by decide +kernel
theorem dM_shortest_193 : decode cM_shortest 193 = .ok (.aload_n 0, 1) := by decide +kernel
theorem dM_shortest_194 : decode cM_shortest 194 = .ok (.getfield 20, 3) := by decide +kernel
theorem dM_shortest_197 : decode cM_shortest 197 = .ok (.getfield 88, 3) := by decide +kernel
theorem dM_shortest_200 : decode cM_shortest 200 = .ok (.iload 6, 2) := by decide +kernel
theorem dM_shortest_202 : decode cM_shortest 202 = .ok (.if_icmp .gt 4, 3) := by decide +kernel
theorem dM_shortest_205 : decode cM_shortest 205 = .ok (.return_, 1) := by decide +kernel
theorem dM_shortest_206 : decode cM_shortest 206 = .ok (.aload_n 0, 1) := by decide +kernel
theorem dM_shortest_207 : decode cM_shortest 207 = .ok (.aload_n 0, 1) := by decide +kernel
theorem dM_shortest_208 : decode cM_shortest 208 = .ok (.getfield 30, 3) := by decide +kernel
theorem dM_shortest_211 : decode cM_shortest 211 = .ok (.lload_n 3, 1) := by decide +kernel
theorem dM_shortest_212 : decode cM_shortest 212 = .ok (.invokevirtual 129, 3) := by decide +kernel
theorem dM_shortest_215 : decode cM_shortest 215 = .ok (.istore 7, 2) := by decide +kernel
theorem dM_shortest_217 : decode cM_shortest 217 = .ok (.aload_n 0, 1) := by decide +kernel
theorem dM_shortest_218 : decode cM_shortest 218 = .ok (.aload_n 0, 1) := by decide +kernel
theorem dM_shortest_219 : decode cM_shortest 219 = .ok (.getfield 33, 3) := by decide +kernel
theorem dM_shortest_222 : decode cM_shortest 222 = .ok (.lload_n 3, 1) := by decide +kernel
theorem dM_shortest_223 : decode cM_shortest 223 = .ok (.invokevirtual 129, 3) := by decide +kernel
theorem dM_shortest_226 : decode cM_shortest 226 = .ok (.istore 8, 2) := by decide +kernel
theorem dM_shortest_228 : decode cM_shortest 228 = .ok (.aload_n 0, 1) := by decide +kernel
theorem dM_shortest_229 : decode cM_shortest 229 = .ok (.getfield 20, 3) := by decide +kernel
theorem dM_shortest_232 : decode cM_shortest 232 = .ok (.getfield 95, 3) := by decide +kernel
theorem dM_shortest_235 : decode cM_shortest 235 = .ok (.iload 6, 2) := by decide +kernel
theorem dM_shortest_237 : decode cM_shortest 237 = .ok (.baload, 1) := by decide +kernel
theorem dM_shortest_238 : decode cM_shortest 238 = .ok (.iconst 5, 1) := by decide +kernel
theorem dM_shortest_239 : decode cM_shortest 239 = .ok (.if_icmp .eq 25, 3) := by decide +kernel
theorem dM_shortest_242 : decode cM_shortest 242 = .ok (.aload_n 0, 1) := by decide +kernel
theorem dM_shortest_243 : decode cM_shortest 243 = .ok (.getfield 20, 3) := by decide +kernel
theorem dM_shortest_246 : decode cM_shortest 246 = .ok (.getfield 95, 3) := by decide +kernel
theorem dM_shortest_249 : decode cM_shortest 249 = .ok (.iload 6, 2) := by decide +kernel
theorem dM_shortest_251 : decode cM_shortest 251 = .ok (.baload, 1) := by decide +kernel
theorem dM_shortest_252 : decode cM_shortest 252 = .ok (.iconst 5, 1) := by decide +kernel
theorem dM_shortest_253 : decode cM_shortest 253 = .ok (.if_icmp .ge 7, 3) := by decide +kernel
theorem dM_shortest_256 : decode cM_shortest 256 = .ok (.iconst (-1), 1) := by decide +kernel
theorem dM_shortest_257 : decode cM_shortest 257 = .ok (.goto 26, 3) := by decide +kernel
theorem dM_shortest_260 : decode cM_shortest 260 = .ok (.iconst 1, 1) := by decide +kernel
theorem dM_shortest_261 : decode cM_shortest 261 = .ok (.goto 22, 3) := by decide +kernel
theorem dM_shortest_264 : decode cM_shortest 264 = .ok (.aload_n 0, 1) := by decide +kernel
theorem dM_shortest_265 : decode cM_shortest 265 = .ok (.getfield 20, 3) := by decide +kernel
theorem dM_shortest_268 : decode cM_shortest 268 = .ok (.getfield 88, 3) := by decide +kernel
theorem dM_shortest_271 : decode cM_shortest 271 = .ok (.iload 6, 2) := by decide +kernel
theorem dM_shortest_273 : decode cM_shortest 273 = .ok (.iconst 1, 1) := by decide +kernel
theorem dM_shortest_274 : decode cM_shortest 274 = .ok (.iadd, 1) := by decide +kernel
theorem dM_shortest_275 : decode cM_shortest 275 = .ok (.if_icmp .le 7, 3) := by decide +kernel
theorem dM_shortest_278 : decode cM_shortest 278 = .ok (.iconst 1, 1) := by decide +kernel
theorem dM_shortest_279 : decode cM_shortest 279 = .ok (.goto 4, 3) := by decide +kernel
theorem dM_shortest_282 : decode cM_shortest 282 = .ok (.iconst 0, 1) := by decide +kernel
theorem dM_shortest_283 : decode cM_shortest 283 = .ok (.istore 9, 2) := by decide +kernel
theorem dM_shortest_285 : decode cM_shortest 285 = .ok (.aload_n 0, 1) := by decide +kernel
theorem dM_shortest_286 : decode cM_shortest 286 = .ok (.getfield 20, 3) := by decide +kernel
theorem dM_shortest_289 : decode cM_shortest 289 = .ok (.getfield 95, 3) := by decide +kernel
theorem dM_shortest_292 : decode cM_shortest 292 = .ok (.iload 6, 2) := by decide +kernel
theorem dM_shortest_294 : decode cM_shortest 294 = .ok (.iconst 1, 1) := by decide +kernel
theorem dM_shortest_295 : decode cM_shortest 295 = .ok (.isub, 1) := by decide +kernel
theorem dM_shortest_296 : decode cM_shortest 296 = .ok (.baload, 1) := by decide +kernel
theorem dM_shortest_297 : decode cM_shortest 297 = .ok (.iconst 1, 1) := by decide +kernel
theorem dM_shortest_298 : decode cM_shortest 298 = .ok (.iand, 1) := by decide +kernel
theorem dM_shortest_299 : decode cM_shortest 299 = .ok (.iconst 1, 1) := by decide +kernel
theorem dM_shortest_300 : decode cM_shortest 300 = .ok (.if_icmp .ne 7, 3) := by decide +kernel
theorem dM_shortest_303 : decode cM_shortest 303 = .ok (.iconst 1, 1) := by decide +kernel
theorem dM_shortest_304 : decode cM_shortest 304 = .ok (.goto 4, 3) := by decide +kernel
theorem dM_shortest_307 : decode cM_shortest 307 = .ok (.iconst 0, 1) := by decide +kernel
theorem dM_shortest_308 : decode cM_shortest 308 = .ok (.istore 10, 2) := by decide +kernel
theorem dM_shortest_310 : decode cM_shortest 310 = .ok (.iload 7, 2) := by decide +kernel
theorem dM_shortest_312 : decode cM_shortest 312 = .ok (.ifCond .eq 24, 3) := by decide +kernel
theorem dM_shortest_315 : decode cM_shortest 315 = .ok (.iload 8, 2) := by decide +kernel
theorem dM_shortest_317 : decode cM_shortest 317 = .ok (.ifCond .eq 18, 3) := by decide +kernel
theorem dM_shortest_320 : decode cM_shortest 320 = .ok (.iload 9, 2) := by decide +kernel
theorem dM_shortest_322 : decode cM_shortest 322 = .ok (.ifCond .lt 13, 3) := by decide +kernel
theorem dM_shortest_325 : decode cM_shortest 325 = .ok (.iload 9, 2) := by decide +kernel
theorem dM_shortest_327 : decode cM_shortest 327 = .ok (.ifCond .ne 9, 3) := by decide +kernel
theorem dM_shortest_330 : decode cM_shortest 330 = .ok (.iload 10, 2) := by decide +kernel
theorem dM_shortest_332 : decode cM_shortest 332 = .ok (.ifCond .ne 4, 3) := by decide +kernel
theorem dM_shortest_335 : decode cM_shortest 335 = .ok (.return_, 1) := by decide +kernel
theorem dM_shortest_336 : decode cM_shortest 336 = .ok (.aload_n 0, 1) := by decide +kernel
theorem dM_shortest_337 : decode cM_shortest 337 = .ok (.getfield 30, 3) := by decide +kernel
theorem dM_shortest_340 : decode cM_shortest 340 = .ok (.aload_n 0, 1) := by decide +kernel
theorem dM_shortest_341 : decode cM_shortest 341 = .ok (.getfield 33, 3) := by decide +kernel
theorem dM_shortest_344 : decode cM_shortest 344 = .ok (.getfield 88, 3) := by decide +kernel
theorem dM_shortest_347 : decode cM_shortest 347 = .ok (.putfield 88, 3) := by decide +kernel
theorem dM_shortest_350 : decode cM_shortest 350 = .ok (.aload_n 0, 1) := by decide +kernel
theorem dM_shortest_351 : decode cM_shortest 351 = .ok (.getfield 30, 3) := by decide +kernel
theorem dM_shortest_354 : decode cM_shortest 354 = .ok (.aload_n 0, 1) := by decide +kernel
theorem dM_shortest_355 : decode cM_shortest 355 = .ok (.getfield 33, 3) := by decide +kernel
theorem dM_shortest_358 : decode cM_shortest 358 = .ok (.getfield 98, 3) := by decide +kernel
theorem dM_shortest_361 : decode cM_shortest 361 = .ok (.putfield 98, 3) := by decide +kernel
theorem dM_shortest_364 : decode cM_shortest 364 = .ok (.iconst 0, 1) := by decide +kernel
theorem dM_shortest_365 : decode cM_shortest 365 = .ok (.istore 11, 2) := by decide +kernel
theorem dM_shortest_367 : decode cM_shortest 367 = .ok (.iload 11, 2) := by decide +kernel
theorem dM_shortest_369 : decode cM_shortest 369 = .ok (.aload_n 0, 1) := by decide +kernel
theorem dM_shortest_370 : decode cM_shortest 370 = .ok (.getfield 33, 3) := by decide +kernel
theorem dM_shortest_373 : decode cM_shortest 373 = .ok (.getfield 88, 3) := by decide +kernel
theorem dM_shortest_376 : decode cM_shortest 376 = .ok (.if_icmp .ge 29, 3) := by decide +kernel
theorem dM_shortest_379 : decode cM_shortest 379 = .ok (.aload_n 0, 1) := by decide +kernel
theorem dM_shortest_380 : decode cM_shortest 380 = .ok (.getfield 30, 3) := by decide +kernel
theorem dM_shortest_383 : decode cM_shortest 383 = .ok (.getfield 95, 3) := by decide +kernel
theorem dM_shortest_386 : decode cM_shortest 386 = .ok (.iload 11, 2) := by decide +kernel
theorem dM_shortest_388 : decode cM_shortest 388 = .ok (.aload_n 0, 1) := by decide +kernel
theorem dM_shortest_389 : decode cM_shortest 389 = .ok (.getfield 33, 3) := by decide +kernel
theorem dM_shortest_392 : decode cM_shortest 392 = .ok (.getfield 95, 3) := by decide +kernel
theorem dM_shortest_395 : decode cM_shortest 395 = .ok (.iload 11, 2) := by decide +kernel
theorem dM_shortest_397 : decode cM_shortest 397 = .ok (.baload, 1) := by decide +kernel
theorem dM_shortest_398 : decode cM_shortest 398 = .ok (.bastore, 1) := by decide +kernel
theorem dM_shortest_399 : decode cM_shortest 399 = .ok (.iinc 11 1, 3) := by decide +kernel
theorem dM_shortest_402 : decode cM_shortest 402 = .ok (.goto (-35), 3) := by decide +kernel
theorem dM_shortest_405 : decode cM_shortest 405 = .ok (.return_, 1) := by decide +kernel
theorem dM_c_0 : decode cM_c 0 = .ok (.lload_n 1, 1) := by decide +kernel
theorem dM_c_1 : decode cM_c 1 = .ok (.aload_n 0, 1) := by decide +kernel
theorem dM_c_2 : decode cM_c 2 = .ok (.invokevirtual 70, 3) := by decide +kernel
theorem dM_c_5 : decode cM_c 5 = .ok (.land, 1) := by decide +kernel
theorem dM_c_6 : decode cM_c 6 = .ok (.lstore_n 3, 1) := by decide +kernel
theorem dM_c_7 : decode cM_c 7 = .ok (.lload_n 1, 1) := by decide +kernel
theorem dM_c_8 : decode cM_c 8 = .ok (.aload_n 0, 1) := by decide +kernel
theorem dM_c_9 : decode cM_c 9 = .ok (.invokevirtual 70, 3) := by decide +kernel
theorem dM_c_12 : decode cM_c 12 = .ok (.lcmp, 1) := by decide +kernel
theorem dM_c_13 : decode cM_c 13 = .ok (.ifCond .le 14, 3) := by decide +kernel
theorem dM_c_16 : decode cM_c 16 = .ok (.lload_n 3, 1) := by decide +kernel
theorem dM_c_17 : decode cM_c 17 = .ok (.aload_n 0, 1) := by decide +kernel
theorem dM_c_18 : decode cM_c 18 = .ok (.invokevirtual 70, 3) := by decide +kernel
theorem dM_c_21 : decode cM_c 21 = .ok (.lconst 1, 1) := by decide +kernel
theorem dM_c_22 : decode cM_c 22 = .ok (.ladd, 1) := by decide +kernel
theorem dM_c_23 : decode cM_c 23 = .ok (.lor, 1) := by decide +kernel
theorem dM_c_24 : decode cM_c 24 = .ok (.goto 4, 3) := by decide +kernel
theorem dM_c_27 : decode cM_c 27 = .ok (.lload_n 3, 1) := by decide +kernel
theorem dM_c_28 : decode cM_c 28 = .ok (.lreturn, 1) := by decide +kernel
theorem dM_fraction_0 : decode cM_fraction 0 = .ok (.lconst 1, 1) := by decide +kernel
theorem dM_fraction_1 : decode cM_fraction 1 = .ok (.aload_n 0, 1) := by decide +kernel
theorem dM_fraction_2 : decode cM_fraction 2 = .ok (.getfield 52, 3) := by decide +kernel
theorem dM_fraction_5 : decode cM_fraction 5 = .ok (.iconst 1, 1) := by decide +kernel
theorem dM_fraction_6 : decode cM_fraction 6 = .ok (.isub, 1) := by decide +kernel
theorem dM_fraction_7 : decode cM_fraction 7 = .ok (.lshl, 1) := by decide +kernel
theorem dM_fraction_8 : decode cM_fraction 8 = .ok (.lconst 1, 1) := by decide +kernel
theorem dM_fraction_9 : decode cM_fraction 9 = .ok (.lsub, 1) := by decide +kernel
theorem dM_fraction_10 : decode cM_fraction 10 = .ok (.lreturn, 1) := by decide +kernel
theorem dM_q_0 : decode cM_q 0 = .ok (.lload_n 1, 1) := by decide +kernel
theorem dM_q_1 : decode cM_q 1 = .ok (.aload_n 0, 1) := by decide +kernel
theorem dM_q_2 : decode cM_q 2 = .ok (.getfield 52, 3) := by decide +kernel
theorem dM_q_5 : decode cM_q 5 = .ok (.iconst 1, 1) := by decide +kernel
theorem dM_q_6 : decode cM_q 6 = .ok (.isub, 1) := by decide +kernel
theorem dM_q_7 : decode cM_q 7 = .ok (.lushr, 1) := by decide +kernel
theorem dM_q_8 : decode cM_q 8 = .ok (.lstore_n 3, 1) := by decide +kernel
theorem dM_q_9 : decode cM_q 9 = .ok (.lload_n 3, 1) := by decide +kernel
theorem dM_q_10 : decode cM_q 10 = .ok (.lconst 0, 1) := by decide +kernel
theorem dM_q_11 : decode cM_q 11 = .ok (.lcmp, 1) := by decide +kernel
theorem dM_q_12 : decode cM_q 12 = .ok (.ifCond .ne 10, 3) := by decide +kernel
theorem dM_q_15 : decode cM_q 15 = .ok (.aload_n 0, 1) := by decide +kernel
theorem dM_q_16 : decode cM_q 16 = .ok (.getfield 55, 3) := by decide +kernel
theorem dM_q_19 : decode cM_q 19 = .ok (.goto 12, 3) := by decide +kernel
theorem dM_q_22 : decode cM_q 22 = .ok (.aload_n 0, 1) := by decide +kernel
theorem dM_q_23 : decode cM_q 23 = .ok (.getfield 55, 3) := by decide +kernel
theorem dM_q_26 : decode cM_q 26 = .ok (.lload_n 3, 1) := by decide +kernel
theorem dM_q_27 : decode cM_q 27 = .ok (.l2i, 1) := by decide +kernel
theorem dM_q_28 : decode cM_q 28 = .ok (.iadd, 1) := by decide +kernel
theorem dM_q_29 : decode cM_q 29 = .ok (.iconst 1, 1) := by decide +kernel
theorem dM_q_30 : decode cM_q 30 = .ok (.isub, 1) := by decide +kernel
theorem dM_q_31 : decode cM_q 31 = .ok (.ireturn, 1) := by decide +kernel
theorem dM_row_0 : decode cM_row 0 = .ok (.aload_n 0, 1) := by decide +kernel
theorem dM_row_1 : decode cM_row 1 = .ok (.iconst 0, 1) := by decide +kernel
theorem dM_row_2 : decode cM_row 2 = .ok (.putfield 73, 3) := by decide +kernel
theorem dM_row_5 : decode cM_row 5 = .ok (.lload_n 1, 1) := by decide +kernel
theorem dM_row_6 : decode cM_row 6 = .ok (.lstore 5, 2) := by decide +kernel
theorem dM_row_8 : decode cM_row 8 = .ok (.lload 5, 2) := by decide +kernel
theorem dM_row_10 : decode cM_row 10 = .ok (.lconst 0, 1) := by decide +kernel
theorem dM_row_11 : decode cM_row 11 = .ok (.lcmp, 1) := by decide +kernel
theorem dM_row_12 : decode cM_row 12 = .ok (.ifCond .le 39, 3) := by decide +kernel
theorem dM_row_15 : decode cM_row 15 = .ok (.aload_n 0, 1) := by decide +kernel
theorem dM_row_16 : decode cM_row 16 = .ok (.getfield 13, 3) := by decide +kernel
theorem dM_row_19 : decode cM_row 19 = .ok (.aload_n 0, 1) := by decide +kernel
theorem dM_row_20 : decode cM_row 20 = .ok (.getfield 73, 3) := by decide +kernel
theorem dM_row_23 : decode cM_row 23 = .ok (.lload 5, 2) := by decide +kernel
theorem dM_row_25 : decode cM_row 25 = .ok (.ldc2_w 76, 3) := by decide +kernel
theorem dM_row_28 : decode cM_row 28 = .ok (.lrem, 1) := by decide +kernel
theorem dM_row_29 : decode cM_row 29 = .ok (.lastore, 1) := by decide +kernel
theorem dM_row_30 : decode cM_row 30 = .ok (.aload_n 0, 1) := by decide +kernel
theorem dM_row_31 : decode cM_row 31 = .ok (.dup, 1) := by decide +kernel
theorem dM_row_32 : decode cM_row 32 = .ok (.getfield 73, 3) := by decide +kernel
theorem dM_row_35 : decode cM_row 35 = .ok (.iconst 1, 1) := by decide +kernel
theorem dM_row_36 : decode cM_row 36 = .ok (.iadd, 1) := by decide +kernel
theorem dM_row_37 : decode cM_row 37 = .ok (.putfield 73, 3) := by decide +kernel
theorem dM_row_40 : decode cM_row 40 = .ok (.lload 5, 2) := by decide +kernel
theorem dM_row_42 : decode cM_row 42 = .ok (.ldc2_w 76, 3) := by decide +kernel
theorem dM_row_45 : decode cM_row 45 = .ok (.ldiv, 1) := by decide +kernel
theorem dM_row_46 : decode cM_row 46 = .ok (.lstore 5, 2) := by decide +kernel
theorem dM_row_48 : decode cM_row 48 = .ok (.goto (-40), 3) := by decide +kernel
theorem dM_row_51 : decode cM_row 51 = .ok (.iconst 0, 1) := by decide +kernel
theorem dM_row_52 : decode cM_row 52 = .ok (.istore 5, 2) := by decide +kernel
theorem dM_row_54 : decode cM_row 54 = .ok (.iload 5, 2) := by decide +kernel
theorem dM_row_56 : decode cM_row 56 = .ok (.bipush 29, 2) := by decide +kernel
theorem dM_row_58 : decode cM_row 58 = .ok (.iadd, 1) := by decide +kernel
theorem dM_row_59 : decode cM_row 59 = .ok (.iload_n 3, 1) := by decide +kernel
theorem dM_row_60 : decode cM_row 60 = .ok (.if_icmp .gt 16, 3) := by decide +kernel
theorem dM_row_63 : decode cM_row 63 = .ok (.aload_n 0, 1) := by decide +kernel
theorem dM_row_64 : decode cM_row 64 = .ok (.ldc2_w 78, 3) := by decide +kernel
theorem dM_row_67 : decode cM_row 67 = .ok (.invokevirtual 80, 3) := by decide +kernel
theorem dM_row_70 : decode cM_row 70 = .ok (.iinc 5 29, 3) := by decide +kernel
theorem dM_row_73 : decode cM_row 73 = .ok (.goto (-19), 3) := by decide +kernel
theorem dM_row_76 : decode cM_row 76 = .ok (.iload_n 3, 1) := by decide +kernel
theorem dM_row_77 : decode cM_row 77 = .ok (.ifCond .le 13, 3) := by decide +kernel
theorem dM_row_80 : decode cM_row 80 = .ok (.aload_n 0, 1) := by decide +kernel
theorem dM_row_81 : decode cM_row 81 = .ok (.lconst 1, 1) := by decide +kernel
theorem dM_row_82 : decode cM_row 82 = .ok (.iload_n 3, 1) := by decide +kernel
theorem dM_row_83 : decode cM_row 83 = .ok (.bipush 29, 2) := by decide +kernel
theorem dM_row_85 : decode cM_row 85 = .ok (.irem, 1) := by decide +kernel
theorem dM_row_86 : decode cM_row 86 = .ok (.lshl, 1) := by decide +kernel
theorem dM_row_87 : decode cM_row 87 = .ok (.invokevirtual 80, 3) := by decide +kernel
theorem dM_row_90 : decode cM_row 90 = .ok (.iconst 0, 1) := by decide +kernel
theorem dM_row_91 : decode cM_row 91 = .ok (.istore 5, 2) := by decide +kernel
theorem dM_row_93 : decode cM_row 93 = .ok (.iload 5, 2) := by decide +kernel
theorem dM_row_95 : decode cM_row 95 = .ok (.bipush 12, 2) := by decide +kernel
theorem dM_row_97 : decode cM_row 97 = .ok (.iadd, 1) := by decide +kernel
theorem dM_row_98 : decode cM_row 98 = .ok (.iload_n 3, 1) := by decide +kernel
theorem dM_row_99 : decode cM_row 99 = .ok (.ineg, 1) := by decide +kernel
theorem dM_row_100 : decode cM_row 100 = .ok (.if_icmp .gt 16, 3) := by decide +kernel
theorem dM_row_103 : decode cM_row 103 = .ok (.aload_n 0, 1) := by decide +kernel
theorem dM_row_104 : decode cM_row 104 = .ok (.ldc2_w 84, 3) := by decide +kernel
theorem dM_row_107 : decode cM_row 107 = .ok (.invokevirtual 80, 3) := by decide +kernel
theorem dM_row_110 : decode cM_row 110 = .ok (.iinc 5 12, 3) := by decide +kernel
theorem dM_row_113 : decode cM_row 113 = .ok (.goto (-20), 3) := by decide +kernel
theorem dM_row_116 : decode cM_row 116 = .ok (.iconst 0, 1) := by decide +kernel
theorem dM_row_117 : decode cM_row 117 = .ok (.istore 5, 2) := by decide +kernel
theorem dM_row_119 : decode cM_row 119 = .ok (.iload 5, 2) := by decide +kernel
theorem dM_row_121 : decode cM_row 121 = .ok (.iload_n 3, 1) := by decide +kernel
theorem dM_row_122 : decode cM_row 122 = .ok (.ifCond .ge 11, 3) := by decide +kernel
theorem dM_row_125 : decode cM_row 125 = .ok (.iload_n 3, 1) := by decide +kernel
theorem dM_row_126 : decode cM_row 126 = .ok (.ineg, 1) := by decide +kernel
theorem dM_row_127 : decode cM_row 127 = .ok (.bipush 12, 2) := by decide +kernel
theorem dM_row_129 : decode cM_row 129 = .ok (.irem, 1) := by decide +kernel
theorem dM_row_130 : decode cM_row 130 = .ok (.goto 4, 3) := by decide +kernel
theorem dM_row_133 : decode cM_row 133 = .ok (.iconst 0, 1) := by decide +kernel
theorem dM_row_134 : decode cM_row 134 = .ok (.if_icmp .ge 16, 3) := by decide +kernel
theorem dM_row_137 : decode cM_row 137 = .ok (.aload_n 0, 1) := by decide +kernel
theorem dM_row_138 : decode cM_row 138 = .ok (.ldc2_w 86, 3) := by decide +kernel
theorem dM_row_141 : decode cM_row 141 = .ok (.invokevirtual 80, 3) := by decide +kernel
theorem dM_row_144 : decode cM_row 144 = .ok (.iinc 5 1, 3) := by decide +kernel
theorem dM_row_147 : decode cM_row 147 = .ok (.goto (-28), 3) := by decide +kernel
theorem dM_row_150 : decode cM_row 150 = .ok (.aload 4, 2) := by decide +kernel
theorem dM_row_152 : decode cM_row 152 = .ok (.iconst 0, 1) := by decide +kernel
theorem dM_row_153 : decode cM_row 153 = .ok (.putfield 88, 3) := by decide +kernel
theorem dM_row_156 : decode cM_row 156 = .ok (.aload_n 0, 1) := by decide +kernel
theorem dM_row_157 : decode cM_row 157 = .ok (.getfield 73, 3) := by decide +kernel
theorem dM_row_160 : decode cM_row 160 = .ok (.iconst 1, 1) := by decide +kernel
theorem dM_row_161 : decode cM_row 161 = .ok (.isub, 1) := by decide +kernel
theorem dM_row_162 : decode cM_row 162 = .ok (.istore 5, 2) := by decide +kernel
theorem dM_row_164 : decode cM_row 164 = .ok (.iload 5, 2) := by decide +kernel
theorem dM_row_166 : decode cM_row 166 = .ok (.ifCond .lt 90, 3) := by decide +kernel
theorem dM_row_169 : decode cM_row 169 = .ok (.ldc2_w 91, 3) := by decide +kernel
theorem dM_row_172 : decode cM_row 172 = .ok (.lstore 6, 2) := by decide +kernel
theorem dM_row_174 : decode cM_row 174 = .ok (.lload 6, 2) := by decide +kernel
theorem dM_row_176 : decode cM_row 176 = .ok (.lconst 0, 1) := by decide +kernel
theorem dM_row_177 : decode cM_row 177 = .ok (.lcmp, 1) := by decide +kernel
theorem dM_row_178 : decode cM_row 178 = .ok (.ifCond .le 72, 3) := by decide +kernel
theorem dM_row_181 : decode cM_row 181 = .ok (.aload_n 0, 1) := by decide +kernel
theorem dM_row_182 : decode cM_row 182 = .ok (.getfield 13, 3) := by decide +kernel
theorem dM_row_185 : decode cM_row 185 = .ok (.iload 5, 2) := by decide +kernel
theorem dM_row_187 : decode cM_row 187 = .ok (.laload, 1) := by decide +kernel
theorem dM_row_188 : decode cM_row 188 = .ok (.lload 6, 2) := by decide +kernel
theorem dM_row_190 : decode cM_row 190 = .ok (.ldiv, 1) := by decide +kernel
theorem dM_row_191 : decode cM_row 191 = .ok (.ldc2_w 93, 3) := by decide +kernel
theorem dM_row_194 : decode cM_row 194 = .ok (.lrem, 1) := by decide +kernel
theorem dM_row_195 : decode cM_row 195 = .ok (.l2i, 1) := by decide +kernel
theorem dM_row_196 : decode cM_row 196 = .ok (.i2b, 1) := by decide +kernel
theorem dM_row_197 : decode cM_row 197 = .ok (.istore 8, 2) := by decide +kernel
theorem dM_row_199 : decode cM_row 199 = .ok (.aload 4, 2) := by decide +kernel
theorem dM_row_201 : decode cM_row 201 = .ok (.getfield 88, 3) := by decide +kernel
theorem dM_row_204 : decode cM_row 204 = .ok (.ifCond .ne 11, 3) := by decide +kernel
theorem dM_row_207 : decode cM_row 207 = .ok (.iload 8, 2) := by decide +kernel
theorem dM_row_209 : decode cM_row 209 = .ok (.ifCond .ne 6, 3) := by decide +kernel
theorem dM_row_212 : decode cM_row 212 = .ok (.goto 27, 3) := by decide +kernel
theorem dM_row_215 : decode cM_row 215 = .ok (.aload 4, 2) := by decide +kernel
theorem dM_row_217 : decode cM_row 217 = .ok (.getfield 95, 3) := by decide +kernel
theorem dM_row_220 : decode cM_row 220 = .ok (.aload 4, 2) := by decide +kernel
theorem dM_row_222 : decode cM_row 222 = .ok (.getfield 88, 3) := by decide +kernel
theorem dM_row_225 : decode cM_row 225 = .ok (.iload 8, 2) := by decide +kernel
theorem dM_row_227 : decode cM_row 227 = .ok (.bastore, 1) := by decide +kernel
theorem dM_row_228 : decode cM_row 228 = .ok (.aload 4, 2) := by decide +kernel
theorem dM_row_230 : decode cM_row 230 = .ok (.dup, 1) := by decide +kernel
theorem dM_row_231 : decode cM_row 231 = .ok (.getfield 88, 3) := by decide +kernel
theorem dM_row_234 : decode cM_row 234 = .ok (.iconst 1, 1) := by decide +kernel
theorem dM_row_235 : decode cM_row 235 = .ok (.iadd, 1) := by decide +kernel
theorem dM_row_236 : decode cM_row 236 = .ok (.putfield 88, 3) := by decide +kernel
theorem dM_row_239 : decode cM_row 239 = .ok (.lload 6, 2) := by decide +kernel
theorem dM_row_241 : decode cM_row 241 = .ok (.ldc2_w 93, 3) := by decide +kernel
theorem dM_row_244 : decode cM_row 244 = .ok (.ldiv, 1) := by decide +kernel
theorem dM_row_245 : decode cM_row 245 = .ok (.lstore 6, 2) := by decide +kernel
theorem dM_row_247 : decode cM_row 247 = .ok (.goto (-73), 3) := by decide +kernel
theorem dM_row_250 : decode cM_row 250 = .ok (.iinc 5 (-1), 3) := by decide +kernel
theorem dM_row_253 : decode cM_row 253 = .ok (.goto (-89), 3) := by decide +kernel
theorem dM_row_256 : decode cM_row 256 = .ok (.aload 4, 2) := by decide +kernel
theorem dM_row_258 : decode cM_row 258 = .ok (.aload 4, 2) := by decide +kernel
theorem dM_row_260 : decode cM_row 260 = .ok (.getfield 88, 3) := by decide +kernel
theorem dM_row_263 : decode cM_row 263 = .ok (.iload_n 3, 1) := by decide +kernel
theorem dM_row_264 : decode cM_row 264 = .ok (.ifCond .ge 7, 3) := by decide +kernel
theorem dM_row_267 : decode cM_row 267 = .ok (.iload_n 3, 1) := by decide +kernel
theorem dM_row_268 : decode cM_row 268 = .ok (.goto 4, 3) := by decide +kernel
theorem dM_row_271 : decode cM_row 271 = .ok (.iconst 0, 1) := by decide +kernel
theorem dM_row_272 : decode cM_row 272 = .ok (.iadd, 1) := by decide +kernel
theorem dM_row_273 : decode cM_row 273 = .ok (.putfield 98, 3) := by decide +kernel
theorem dM_row_276 : decode cM_row 276 = .ok (.aload 4, 2) := by decide +kernel
theorem dM_row_278 : decode cM_row 278 = .ok (.getfield 88, 3) := by decide +kernel
theorem dM_row_281 : decode cM_row 281 = .ok (.ifCond .le 33, 3) := by decide +kernel
theorem dM_row_284 : decode cM_row 284 = .ok (.aload 4, 2) := by decide +kernel
theorem dM_row_286 : decode cM_row 286 = .ok (.getfield 95, 3) := by decide +kernel
theorem dM_row_289 : decode cM_row 289 = .ok (.aload 4, 2) := by decide +kernel
theorem dM_row_291 : decode cM_row 291 = .ok (.getfield 88, 3) := by decide +kernel
theorem dM_row_294 : decode cM_row 294 = .ok (.iconst 1, 1) := by decide +kernel
theorem dM_row_295 : decode cM_row 295 = .ok (.isub, 1) := by decide +kernel
theorem dM_row_296 : decode cM_row 296 = .ok (.baload, 1) := by decide +kernel
theorem dM_row_297 : decode cM_row 297 = .ok (.ifCond .ne 17, 3) := by decide +kernel
theorem dM_row_300 : decode cM_row 300 = .ok (.aload 4, 2) := by decide +kernel
theorem dM_row_302 : decode cM_row 302 = .ok (.dup, 1) := by decide +kernel
theorem dM_row_303 : decode cM_row 303 = .ok (.getfield 88, 3) := by decide +kernel
theorem dM_row_306 : decode cM_row 306 = .ok (.iconst 1, 1) := by decide +kernel
theorem dM_row_307 : decode cM_row 307 = .ok (.isub, 1) := by decide +kernel
theorem dM_row_308 : decode cM_row 308 = .ok (.putfield 88, 3) := by decide +kernel
theorem dM_row_311 : decode cM_row 311 = .ok (.goto (-35), 3) := by decide +kernel
theorem dM_row_314 : decode cM_row 314 = .ok (.return_, 1) := by decide +kernel
theorem dM_times_0 : decode cM_times 0 = .ok (.lconst 0, 1) := by decide +kernel
theorem dM_times_1 : decode cM_times 1 = .ok (.lstore_n 3, 1) := by decide +kernel
theorem dM_times_2 : decode cM_times 2 = .ok (.iconst 0, 1) := by decide +kernel
theorem dM_times_3 : decode cM_times 3 = .ok (.istore 5, 2) := by decide +kernel
theorem dM_times_5 : decode cM_times 5 = .ok (.iload 5, 2) := by decide +kernel
theorem dM_times_7 : decode cM_times 7 = .ok (.aload_n 0, 1) := by decide +kernel
theorem dM_times_8 : decode cM_times 8 = .ok (.getfield 73, 3) := by decide +kernel
theorem dM_times_11 : decode cM_times 11 = .ok (.if_icmp .ge 39, 3) := by decide +kernel
theorem dM_times_14 : decode cM_times 14 = .ok (.lload_n 3, 1) := by decide +kernel
theorem dM_times_15 : decode cM_times 15 = .ok (.aload_n 0, 1) := by decide +kernel
theorem dM_times_16 : decode cM_times 16 = .ok (.getfield 13, 3) := by decide +kernel
theorem dM_times_19 : decode cM_times 19 = .ok (.iload 5, 2) := by decide +kernel
theorem dM_times_21 : decode cM_times 21 = .ok (.laload, 1) := by decide +kernel
theorem dM_times_22 : decode cM_times 22 = .ok (.lload_n 1, 1) := by decide +kernel
theorem dM_times_23 : decode cM_times 23 = .ok (.lmul, 1) := by decide +kernel
theorem dM_times_24 : decode cM_times 24 = .ok (.ladd, 1) := by decide +kernel
theorem dM_times_25 : decode cM_times 25 = .ok (.lstore_n 3, 1) := by decide +kernel
theorem dM_times_26 : decode cM_times 26 = .ok (.aload_n 0, 1) := by decide +kernel
theorem dM_times_27 : decode cM_times 27 = .ok (.getfield 13, 3) := by decide +kernel
theorem dM_times_30 : decode cM_times 30 = .ok (.iload 5, 2) := by decide +kernel
theorem dM_times_32 : decode cM_times 32 = .ok (.lload_n 3, 1) := by decide +kernel
theorem dM_times_33 : decode cM_times 33 = .ok (.ldc2_w 76, 3) := by decide +kernel
theorem dM_times_36 : decode cM_times 36 = .ok (.lrem, 1) := by decide +kernel
theorem dM_times_37 : decode cM_times 37 = .ok (.lastore, 1) := by decide +kernel
theorem dM_times_38 : decode cM_times 38 = .ok (.lload_n 3, 1) := by decide +kernel
theorem dM_times_39 : decode cM_times 39 = .ok (.ldc2_w 76, 3) := by decide +kernel
theorem dM_times_42 : decode cM_times 42 = .ok (.ldiv, 1) := by decide +kernel
theorem dM_times_43 : decode cM_times 43 = .ok (.lstore_n 3, 1) := by decide +kernel
theorem dM_times_44 : decode cM_times 44 = .ok (.iinc 5 1, 3) := by decide +kernel
theorem dM_times_47 : decode cM_times 47 = .ok (.goto (-42), 3) := by decide +kernel
theorem dM_times_50 : decode cM_times 50 = .ok (.lload_n 3, 1) := by decide +kernel
theorem dM_times_51 : decode cM_times 51 = .ok (.lconst 0, 1) := by decide +kernel
theorem dM_times_52 : decode cM_times 52 = .ok (.lcmp, 1) := by decide +kernel
theorem dM_times_53 : decode cM_times 53 = .ok (.ifCond .le 23, 3) := by decide +kernel
theorem dM_times_56 : decode cM_times 56 = .ok (.aload_n 0, 1) := by decide +kernel
theorem dM_times_57 : decode cM_times 57 = .ok (.getfield 13, 3) := by decide +kernel
theorem dM_times_60 : decode cM_times 60 = .ok (.aload_n 0, 1) := by decide +kernel
theorem dM_times_61 : decode cM_times 61 = .ok (.getfield 73, 3) := by decide +kernel
theorem dM_times_64 : decode cM_times 64 = .ok (.lload_n 3, 1) := by decide +kernel
theorem dM_times_65 : decode cM_times 65 = .ok (.lastore, 1) := by decide +kernel
theorem dM_times_66 : decode cM_times 66 = .ok (.aload_n 0, 1) := by decide +kernel
theorem dM_times_67 : decode cM_times 67 = .ok (.dup, 1) := by decide +kernel
theorem dM_times_68 : decode cM_times 68 = .ok (.getfield 73, 3) := by decide +kernel
theorem dM_times_71 : decode cM_times 71 = .ok (.iconst 1, 1) := by decide +kernel
theorem dM_times_72 : decode cM_times 72 = .ok (.iadd, 1) := by decide +kernel
theorem dM_times_73 : decode cM_times 73 = .ok (.putfield 73, 3) := by decide +kernel
theorem dM_times_76 : decode cM_times 76 = .ok (.return_, 1) := by decide +kernel
theorem dM_cut_0 : decode cM_cut 0 = .ok (.aload_n 3, 1) := by decide +kernel
theorem dM_cut_1 : decode cM_cut 1 = .ok (.aload_n 0, 1) := by decide +kernel
theorem dM_cut_2 : decode cM_cut 2 = .ok (.getfield 20, 3) := by decide +kernel
theorem dM_cut_5 : decode cM_cut 5 = .ok (.getfield 98, 3) := by decide +kernel
theorem dM_cut_8 : decode cM_cut 8 = .ok (.putfield 98, 3) := by decide +kernel
theorem dM_cut_11 : decode cM_cut 11 = .ok (.aload_n 3, 1) := by decide +kernel
theorem dM_cut_12 : decode cM_cut 12 = .ok (.iload_n 1, 1) := by decide +kernel
theorem dM_cut_13 : decode cM_cut 13 = .ok (.putfield 88, 3) := by decide +kernel
theorem dM_cut_16 : decode cM_cut 16 = .ok (.iconst 0, 1) := by decide +kernel
theorem dM_cut_17 : decode cM_cut 17 = .ok (.istore 4, 2) := by decide +kernel
theorem dM_cut_19 : decode cM_cut 19 = .ok (.iload 4, 2) := by decide +kernel
theorem dM_cut_21 : decode cM_cut 21 = .ok (.iload_n 1, 1) := by decide +kernel
theorem dM_cut_22 : decode cM_cut 22 = .ok (.if_icmp .ge 42, 3) := by decide +kernel
theorem dM_cut_25 : decode cM_cut 25 = .ok (.aload_n 3, 1) := by decide +kernel
theorem dM_cut_26 : decode cM_cut 26 = .ok (.getfield 95, 3) := by decide +kernel
theorem dM_cut_29 : decode cM_cut 29 = .ok (.iload 4, 2) := by decide +kernel
theorem dM_cut_31 : decode cM_cut 31 = .ok (.iload 4, 2) := by decide +kernel
theorem dM_cut_33 : decode cM_cut 33 = .ok (.aload_n 0, 1) := by decide +kernel
theorem dM_cut_34 : decode cM_cut 34 = .ok (.getfield 20, 3) := by decide +kernel
theorem dM_cut_37 : decode cM_cut 37 = .ok (.getfield 88, 3) := by decide +kernel
theorem dM_cut_40 : decode cM_cut 40 = .ok (.if_icmp .ge 16, 3) := by decide +kernel
theorem dM_cut_43 : decode cM_cut 43 = .ok (.aload_n 0, 1) := by decide +kernel
theorem dM_cut_44 : decode cM_cut 44 = .ok (.getfield 20, 3) := by decide +kernel
theorem dM_cut_47 : decode cM_cut 47 = .ok (.getfield 95, 3) := by decide +kernel
theorem dM_cut_50 : decode cM_cut 50 = .ok (.iload 4, 2) := by decide +kernel
theorem dM_cut_52 : decode cM_cut 52 = .ok (.baload, 1) := by decide +kernel
theorem dM_cut_53 : decode cM_cut 53 = .ok (.goto 4, 3) := by decide +kernel
theorem dM_cut_56 : decode cM_cut 56 = .ok (.iconst 0, 1) := by decide +kernel
theorem dM_cut_57 : decode cM_cut 57 = .ok (.bastore, 1) := by decide +kernel
theorem dM_cut_58 : decode cM_cut 58 = .ok (.iinc 4 1, 3) := by decide +kernel
theorem dM_cut_61 : decode cM_cut 61 = .ok (.goto (-42), 3) := by decide +kernel
theorem dM_cut_64 : decode cM_cut 64 = .ok (.iload_n 2, 1) := by decide +kernel
theorem dM_cut_65 : decode cM_cut 65 = .ok (.ifCond .eq 7, 3) := by decide +kernel
theorem dM_cut_68 : decode cM_cut 68 = .ok (.aload_n 3, 1) := by decide +kernel
theorem dM_cut_69 : decode cM_cut 69 = .ok (.invokestatic 101, 3) := by decide +kernel
theorem dM_cut_72 : decode cM_cut 72 = .ok (.aload_n 3, 1) := by decide +kernel
theorem dM_cut_73 : decode cM_cut 73 = .ok (.getfield 88, 3) := by decide +kernel
theorem dM_cut_76 : decode cM_cut 76 = .ok (.ifCond .le 30, 3) := by decide +kernel
theorem dM_cut_79 : decode cM_cut 79 = .ok (.aload_n 3, 1) := by decide +kernel
theorem dM_cut_80 : decode cM_cut 80 = .ok (.getfield 95, 3) := by decide +kernel
theorem dM_cut_83 : decode cM_cut 83 = .ok (.aload_n 3, 1) := by decide +kernel
theorem dM_cut_84 : decode cM_cut 84 = .ok (.getfield 88, 3) := by decide +kernel
theorem dM_cut_87 : decode cM_cut 87 = .ok (.iconst 1, 1) := by decide +kernel
theorem dM_cut_88 : decode cM_cut 88 = .ok (.isub, 1) := by decide +kernel
theorem dM_cut_89 : decode cM_cut 89 = .ok (.baload, 1) := by decide +kernel
theorem dM_cut_90 : decode cM_cut 90 = .ok (.ifCond .ne 16, 3) := by decide +kernel
theorem dM_cut_93 : decode cM_cut 93 = .ok (.aload_n 3, 1) := by decide +kernel
theorem dM_cut_94 : decode cM_cut 94 = .ok (.dup, 1) := by decide +kernel
theorem dM_cut_95 : decode cM_cut 95 = .ok (.getfield 88, 3) := by decide +kernel
theorem dM_cut_98 : decode cM_cut 98 = .ok (.iconst 1, 1) := by decide +kernel
theorem dM_cut_99 : decode cM_cut 99 = .ok (.isub, 1) := by decide +kernel
theorem dM_cut_100 : decode cM_cut 100 = .ok (.putfield 88, 3) := by decide +kernel
theorem dM_cut_103 : decode cM_cut 103 = .ok (.goto (-31), 3) := by decide +kernel
theorem dM_cut_106 : decode cM_cut 106 = .ok (.return_, 1) := by decide +kernel
theorem dM_more_0 : decode cM_more 0 = .ok (.aload_n 0, 1) := by decide +kernel
theorem dM_more_1 : decode cM_more 1 = .ok (.getfield 88, 3) := by decide +kernel
theorem dM_more_4 : decode cM_more 4 = .ok (.iconst 1, 1) := by decide +kernel
theorem dM_more_5 : decode cM_more 5 = .ok (.isub, 1) := by decide +kernel
theorem dM_more_6 : decode cM_more 6 = .ok (.istore_n 1, 1) := by decide +kernel
theorem dM_more_7 : decode cM_more 7 = .ok (.iload_n 1, 1) := by decide +kernel
theorem dM_more_8 : decode cM_more 8 = .ok (.ifCond .lt 27, 3) := by decide +kernel
theorem dM_more_11 : decode cM_more 11 = .ok (.aload_n 0, 1) := by decide +kernel
theorem dM_more_12 : decode cM_more 12 = .ok (.getfield 95, 3) := by decide +kernel
theorem dM_more_15 : decode cM_more 15 = .ok (.iload_n 1, 1) := by decide +kernel
theorem dM_more_16 : decode cM_more 16 = .ok (.baload, 1) := by decide +kernel
theorem dM_more_17 : decode cM_more 17 = .ok (.bipush 9, 2) := by decide +kernel
theorem dM_more_19 : decode cM_more 19 = .ok (.if_icmp .ne 16, 3) := by decide +kernel
theorem dM_more_22 : decode cM_more 22 = .ok (.aload_n 0, 1) := by decide +kernel
theorem dM_more_23 : decode cM_more 23 = .ok (.getfield 95, 3) := by decide +kernel
theorem dM_more_26 : decode cM_more 26 = .ok (.iload_n 1, 1) := by decide +kernel
theorem dM_more_27 : decode cM_more 27 = .ok (.iconst 0, 1) := by decide +kernel
theorem dM_more_28 : decode cM_more 28 = .ok (.bastore, 1) := by decide +kernel
theorem dM_more_29 : decode cM_more 29 = .ok (.iinc 1 (-1), 3) := by decide +kernel
theorem dM_more_32 : decode cM_more 32 = .ok (.goto (-25), 3) := by decide +kernel
theorem dM_more_35 : decode cM_more 35 = .ok (.iload_n 1, 1) := by decide +kernel
theorem dM_more_36 : decode cM_more 36 = .ok (.ifCond .lt 17, 3) := by decide +kernel
theorem dM_more_39 : decode cM_more 39 = .ok (.aload_n 0, 1) := by decide +kernel
theorem dM_more_40 : decode cM_more 40 = .ok (.getfield 95, 3) := by decide +kernel
theorem dM_more_43 : decode cM_more 43 = .ok (.iload_n 1, 1) := by decide +kernel
theorem dM_more_44 : decode cM_more 44 = .ok (.dup2, 1) := by decide +kernel
theorem dM_more_45 : decode cM_more 45 = .ok (.baload, 1) := by decide +kernel
theorem dM_more_46 : decode cM_more 46 = .ok (.iconst 1, 1) := by decide +kernel
theorem dM_more_47 : decode cM_more 47 = .ok (.iadd, 1) := by decide +kernel
theorem dM_more_48 : decode cM_more 48 = .ok (.i2b, 1) := by decide +kernel
theorem dM_more_49 : decode cM_more 49 = .ok (.bastore, 1) := by decide +kernel
theorem dM_more_50 : decode cM_more 50 = .ok (.goto 59, 3) := by decide +kernel
theorem dM_more_53 : decode cM_more 53 = .ok (.aload_n 0, 1) := by decide +kernel
theorem dM_more_54 : decode cM_more 54 = .ok (.getfield 88, 3) := by decide +kernel
theorem dM_more_57 : decode cM_more 57 = .ok (.istore_n 2, 1) := by decide +kernel
theorem dM_more_58 : decode cM_more 58 = .ok (.iload_n 2, 1) := by decide +kernel
theorem dM_more_59 : decode cM_more 59 = .ok (.ifCond .le 23, 3) := by decide +kernel
theorem dM_more_62 : decode cM_more 62 = .ok (.aload_n 0, 1) := by decide +kernel
theorem dM_more_63 : decode cM_more 63 = .ok (.getfield 95, 3) := by decide +kernel
theorem dM_more_66 : decode cM_more 66 = .ok (.iload_n 2, 1) := by decide +kernel
theorem dM_more_67 : decode cM_more 67 = .ok (.aload_n 0, 1) := by decide +kernel
theorem dM_more_68 : decode cM_more 68 = .ok (.getfield 95, 3) := by decide +kernel
theorem dM_more_71 : decode cM_more 71 = .ok (.iload_n 2, 1) := by decide +kernel
theorem dM_more_72 : decode cM_more 72 = .ok (.iconst 1, 1) := by decide +kernel
theorem dM_more_73 : decode cM_more 73 = .ok (.isub, 1) := by decide +kernel
theorem dM_more_74 : decode cM_more 74 = .ok (.baload, 1) := by decide +kernel
theorem dM_more_75 : decode cM_more 75 = .ok (.bastore, 1) := by decide +kernel
theorem dM_more_76 : decode cM_more 76 = .ok (.iinc 2 (-1), 3) := by decide +kernel
theorem dM_more_79 : decode cM_more 79 = .ok (.goto (-21), 3) := by decide +kernel
theorem dM_more_82 : decode cM_more 82 = .ok (.aload_n 0, 1) := by decide +kernel
theorem dM_more_83 : decode cM_more 83 = .ok (.getfield 95, 3) := by decide +kernel
theorem dM_more_86 : decode cM_more 86 = .ok (.iconst 0, 1) := by decide +kernel
theorem dM_more_87 : decode cM_more 87 = .ok (.iconst 1, 1) := by decide +kernel
theorem dM_more_88 : decode cM_more 88 = .ok (.bastore, 1) := by decide +kernel
theorem dM_more_89 : decode cM_more 89 = .ok (.aload_n 0, 1) := by decide +kernel
theorem dM_more_90 : decode cM_more 90 = .ok (.dup, 1) := by decide +kernel
theorem dM_more_91 : decode cM_more 91 = .ok (.getfield 88, 3) := by decide +kernel
theorem dM_more_94 : decode cM_more 94 = .ok (.iconst 1, 1) := by decide +kernel
theorem dM_more_95 : decode cM_more 95 = .ok (.iadd, 1) := by decide +kernel
theorem dM_more_96 : decode cM_more 96 = .ok (.putfield 88, 3) := by decide +kernel
theorem dM_more_99 : decode cM_more 99 = .ok (.aload_n 0, 1) := by decide +kernel
theorem dM_more_100 : decode cM_more 100 = .ok (.dup, 1) := by decide +kernel
theorem dM_more_101 : decode cM_more 101 = .ok (.getfield 98, 3) := by decide +kernel
theorem dM_more_104 : decode cM_more 104 = .ok (.iconst 1, 1) := by decide +kernel
theorem dM_more_105 : decode cM_more 105 = .ok (.iadd, 1) := by decide +kernel
theorem dM_more_106 : decode cM_more 106 = .ok (.putfield 98, 3) := by decide +kernel
theorem dM_more_109 : decode cM_more 109 = .ok (.return_, 1) := by decide +kernel
theorem dM_reads_0 : decode cM_reads 0 = .ok (.aload_n 1, 1) := by decide +kernel
theorem dM_reads_1 : decode cM_reads 1 = .ok (.getfield 95, 3) := by decide +kernel
theorem dM_reads_4 : decode cM_reads 4 = .ok (.aload_n 1, 1) := by decide +kernel
theorem dM_reads_5 : decode cM_reads 5 = .ok (.getfield 88, 3) := by decide +kernel
theorem dM_reads_8 : decode cM_reads 8 = .ok (.aload_n 1, 1) := by decide +kernel
theorem dM_reads_9 : decode cM_reads 9 = .ok (.getfield 98, 3) := by decide +kernel
theorem dM_reads_12 : decode cM_reads 12 = .ok (.i2l, 1) := by decide +kernel
theorem dM_reads_13 : decode cM_reads 13 = .ok (.aload_n 0, 1) := by decide +kernel
theorem dM_reads_14 : decode cM_reads 14 = .ok (.getfield 24, 3) := by decide +kernel
theorem dM_reads_17 : decode cM_reads 17 = .ok (.invokestatic 105, 3) := by decide +kernel
theorem dM_reads_20 : decode cM_reads 20 = .ok (.istore 4, 2) := by decide +kernel
theorem dM_reads_22 : decode cM_reads 22 = .ok (.aload_n 1, 1) := by decide +kernel
theorem dM_reads_23 : decode cM_reads 23 = .ok (.getfield 95, 3) := by decide +kernel
theorem dM_reads_26 : decode cM_reads 26 = .ok (.aload_n 1, 1) := by decide +kernel
theorem dM_reads_27 : decode cM_reads 27 = .ok (.getfield 88, 3) := by decide +kernel
theorem dM_reads_30 : decode cM_reads 30 = .ok (.aload_n 1, 1) := by decide +kernel
theorem dM_reads_31 : decode cM_reads 31 = .ok (.getfield 98, 3) := by decide +kernel
theorem dM_reads_34 : decode cM_reads 34 = .ok (.i2l, 1) := by decide +kernel
theorem dM_reads_35 : decode cM_reads 35 = .ok (.aload_n 0, 1) := by decide +kernel
theorem dM_reads_36 : decode cM_reads 36 = .ok (.getfield 27, 3) := by decide +kernel
theorem dM_reads_39 : decode cM_reads 39 = .ok (.invokestatic 105, 3) := by decide +kernel
theorem dM_reads_42 : decode cM_reads 42 = .ok (.istore 5, 2) := by decide +kernel
theorem dM_reads_44 : decode cM_reads 44 = .ok (.lload_n 2, 1) := by decide +kernel
theorem dM_reads_45 : decode cM_reads 45 = .ok (.lconst 1, 1) := by decide +kernel
theorem dM_reads_46 : decode cM_reads 46 = .ok (.land, 1) := by decide +kernel
theorem dM_reads_47 : decode cM_reads 47 = .ok (.lconst 0, 1) := by decide +kernel
theorem dM_reads_48 : decode cM_reads 48 = .ok (.lcmp, 1) := by decide +kernel
theorem dM_reads_49 : decode cM_reads 49 = .ok (.ifCond .ne 21, 3) := by decide +kernel
theorem dM_reads_52 : decode cM_reads 52 = .ok (.iload 4, 2) := by decide +kernel
theorem dM_reads_54 : decode cM_reads 54 = .ok (.ifCond .lt 12, 3) := by decide +kernel
theorem dM_reads_57 : decode cM_reads 57 = .ok (.iload 5, 2) := by decide +kernel
theorem dM_reads_59 : decode cM_reads 59 = .ok (.ifCond .gt 7, 3) := by decide +kernel
theorem dM_reads_62 : decode cM_reads 62 = .ok (.iconst 1, 1) := by decide +kernel
theorem dM_reads_63 : decode cM_reads 63 = .ok (.goto 22, 3) := by decide +kernel
theorem dM_reads_66 : decode cM_reads 66 = .ok (.iconst 0, 1) := by decide +kernel
theorem dM_reads_67 : decode cM_reads 67 = .ok (.goto 18, 3) := by decide +kernel
theorem dM_reads_70 : decode cM_reads 70 = .ok (.iload 4, 2) := by decide +kernel
theorem dM_reads_72 : decode cM_reads 72 = .ok (.ifCond .le 12, 3) := by decide +kernel
theorem dM_reads_75 : decode cM_reads 75 = .ok (.iload 5, 2) := by decide +kernel
theorem dM_reads_77 : decode cM_reads 77 = .ok (.ifCond .ge 7, 3) := by decide +kernel
theorem dM_reads_80 : decode cM_reads 80 = .ok (.iconst 1, 1) := by decide +kernel
theorem dM_reads_81 : decode cM_reads 81 = .ok (.goto 4, 3) := by decide +kernel
theorem dM_reads_84 : decode cM_reads 84 = .ok (.iconst 0, 1) := by decide +kernel
theorem dM_reads_85 : decode cM_reads 85 = .ok (.ireturn, 1) := by decide +kernel
theorem dM_compare_0 : decode cM_compare 0 = .ok (.iload_n 1, 1) := by decide +kernel
theorem dM_compare_1 : decode cM_compare 1 = .ok (.ifCond .eq 11, 3) := by decide +kernel
theorem dM_compare_4 : decode cM_compare 4 = .ok (.aload 4, 2) := by decide +kernel
theorem dM_compare_6 : decode cM_compare 6 = .ok (.getfield 88, 3) := by decide +kernel
theorem dM_compare_9 : decode cM_compare 9 = .ok (.ifCond .ne 25, 3) := by decide +kernel
theorem dM_compare_12 : decode cM_compare 12 = .ok (.iload_n 1, 1) := by decide +kernel
theorem dM_compare_13 : decode cM_compare 13 = .ok (.ifCond .ne 19, 3) := by decide +kernel
theorem dM_compare_16 : decode cM_compare 16 = .ok (.aload 4, 2) := by decide +kernel
theorem dM_compare_18 : decode cM_compare 18 = .ok (.getfield 88, 3) := by decide +kernel
theorem dM_compare_21 : decode cM_compare 21 = .ok (.ifCond .ne 7, 3) := by decide +kernel
theorem dM_compare_24 : decode cM_compare 24 = .ok (.iconst 0, 1) := by decide +kernel
theorem dM_compare_25 : decode cM_compare 25 = .ok (.goto 8, 3) := by decide +kernel
theorem dM_compare_28 : decode cM_compare 28 = .ok (.iconst (-1), 1) := by decide +kernel
theorem dM_compare_29 : decode cM_compare 29 = .ok (.goto 4, 3) := by decide +kernel
theorem dM_compare_32 : decode cM_compare 32 = .ok (.iconst 1, 1) := by decide +kernel
theorem dM_compare_33 : decode cM_compare 33 = .ok (.ireturn, 1) := by decide +kernel
theorem dM_compare_34 : decode cM_compare 34 = .ok (.lload_n 2, 1) := by decide +kernel
theorem dM_compare_35 : decode cM_compare 35 = .ok (.aload 4, 2) := by decide +kernel
theorem dM_compare_37 : decode cM_compare 37 = .ok (.getfield 98, 3) := by decide +kernel
theorem dM_compare_40 : decode cM_compare 40 = .ok (.i2l, 1) := by decide +kernel
theorem dM_compare_41 : decode cM_compare 41 = .ok (.lcmp, 1) := by decide +kernel
theorem dM_compare_42 : decode cM_compare 42 = .ok (.ifCond .eq 20, 3) := by decide +kernel
theorem dM_compare_45 : decode cM_compare 45 = .ok (.lload_n 2, 1) := by decide +kernel
theorem dM_compare_46 : decode cM_compare 46 = .ok (.aload 4, 2) := by decide +kernel
theorem dM_compare_48 : decode cM_compare 48 = .ok (.getfield 98, 3) := by decide +kernel
theorem dM_compare_51 : decode cM_compare 51 = .ok (.i2l, 1) := by decide +kernel
theorem dM_compare_52 : decode cM_compare 52 = .ok (.lcmp, 1) := by decide +kernel
theorem dM_compare_53 : decode cM_compare 53 = .ok (.ifCond .ge 7, 3) := by decide +kernel
theorem dM_compare_56 : decode cM_compare 56 = .ok (.iconst (-1), 1) := by decide +kernel
theorem dM_compare_57 : decode cM_compare 57 = .ok (.goto 4, 3) := by decide +kernel
theorem dM_compare_60 : decode cM_compare 60 = .ok (.iconst 1, 1) := by decide +kernel
theorem dM_compare_61 : decode cM_compare 61 = .ok (.ireturn, 1) := by decide +kernel
theorem dM_compare_62 : decode cM_compare 62 = .ok (.iconst 0, 1) := by decide +kernel
theorem dM_compare_63 : decode cM_compare 63 = .ok (.istore 5, 2) := by decide +kernel
theorem dM_compare_65 : decode cM_compare 65 = .ok (.iload 5, 2) := by decide +kernel
theorem dM_compare_67 : decode cM_compare 67 = .ok (.iload_n 1, 1) := by decide +kernel
theorem dM_compare_68 : decode cM_compare 68 = .ok (.if_icmp .lt 13, 3) := by decide +kernel
theorem dM_compare_71 : decode cM_compare 71 = .ok (.iload 5, 2) := by decide +kernel
theorem dM_compare_73 : decode cM_compare 73 = .ok (.aload 4, 2) := by decide +kernel
theorem dM_compare_75 : decode cM_compare 75 = .ok (.getfield 88, 3) := by decide +kernel
theorem dM_compare_78 : decode cM_compare 78 = .ok (.if_icmp .ge 69, 3) := by decide +kernel
theorem dM_compare_81 : decode cM_compare 81 = .ok (.iload 5, 2) := by decide +kernel
theorem dM_compare_83 : decode cM_compare 83 = .ok (.iload_n 1, 1) := by decide +kernel
theorem dM_compare_84 : decode cM_compare 84 = .ok (.if_icmp .ge 10, 3) := by decide +kernel
theorem dM_compare_87 : decode cM_compare 87 = .ok (.aload_n 0, 1) := by decide +kernel
theorem dM_compare_88 : decode cM_compare 88 = .ok (.iload 5, 2) := by decide +kernel
theorem dM_compare_90 : decode cM_compare 90 = .ok (.baload, 1) := by decide +kernel
theorem dM_compare_91 : decode cM_compare 91 = .ok (.goto 4, 3) := by decide +kernel
theorem dM_compare_94 : decode cM_compare 94 = .ok (.iconst 0, 1) := by decide +kernel
theorem dM_compare_95 : decode cM_compare 95 = .ok (.istore 6, 2) := by decide +kernel
theorem dM_compare_97 : decode cM_compare 97 = .ok (.iload 5, 2) := by decide +kernel
theorem dM_compare_99 : decode cM_compare 99 = .ok (.aload 4, 2) := by decide +kernel
theorem dM_compare_101 : decode cM_compare 101 = .ok (.getfield 88, 3) := by decide +kernel
theorem dM_compare_104 : decode cM_compare 104 = .ok (.if_icmp .ge 14, 3) := by decide +kernel
theorem dM_compare_107 : decode cM_compare 107 = .ok (.aload 4, 2) := by decide +kernel
theorem dM_compare_109 : decode cM_compare 109 = .ok (.getfield 95, 3) := by decide +kernel
theorem dM_compare_112 : decode cM_compare 112 = .ok (.iload 5, 2) := by decide +kernel
theorem dM_compare_114 : decode cM_compare 114 = .ok (.baload, 1) := by decide +kernel
theorem dM_compare_115 : decode cM_compare 115 = .ok (.goto 4, 3) := by decide +kernel
theorem dM_compare_118 : decode cM_compare 118 = .ok (.iconst 0, 1) := by decide +kernel
theorem dM_compare_119 : decode cM_compare 119 = .ok (.istore 7, 2) := by decide +kernel
theorem dM_compare_121 : decode cM_compare 121 = .ok (.iload 6, 2) := by decide +kernel
theorem dM_compare_123 : decode cM_compare 123 = .ok (.iload 7, 2) := by decide +kernel
theorem dM_compare_125 : decode cM_compare 125 = .ok (.if_icmp .eq 16, 3) := by decide +kernel
theorem dM_compare_128 : decode cM_compare 128 = .ok (.iload 6, 2) := by decide +kernel
theorem dM_compare_130 : decode cM_compare 130 = .ok (.iload 7, 2) := by decide +kernel
theorem dM_compare_132 : decode cM_compare 132 = .ok (.if_icmp .ge 7, 3) := by decide +kernel
theorem dM_compare_135 : decode cM_compare 135 = .ok (.iconst (-1), 1) := by decide +kernel
theorem dM_compare_136 : decode cM_compare 136 = .ok (.goto 4, 3) := by decide +kernel
theorem dM_compare_139 : decode cM_compare 139 = .ok (.iconst 1, 1) := by decide +kernel
theorem dM_compare_140 : decode cM_compare 140 = .ok (.ireturn, 1) := by decide +kernel
theorem dM_compare_141 : decode cM_compare 141 = .ok (.iinc 5 1, 3) := by decide +kernel
theorem dM_compare_144 : decode cM_compare 144 = .ok (.goto (-79), 3) := by decide +kernel
theorem dM_compare_147 : decode cM_compare 147 = .ok (.iconst 0, 1) := by decide +kernel
theorem dM_compare_148 : decode cM_compare 148 = .ok (.ireturn, 1) := by decide +kernel
theorem dM_plain_0 : decode cM_plain 0 = .ok (.aload_n 0, 1) := by decide +kernel
theorem dM_plain_1 : decode cM_plain 1 = .ok (.getfield 30, 3) := by decide +kernel
theorem dM_plain_4 : decode cM_plain 4 = .ok (.getfield 98, 3) := by decide +kernel
theorem dM_plain_7 : decode cM_plain 7 = .ok (.iconst 1, 1) := by decide +kernel
theorem dM_plain_8 : decode cM_plain 8 = .ok (.if_icmp .ge 9, 3) := by decide +kernel
theorem dM_plain_11 : decode cM_plain 11 = .ok (.aload_n 0, 1) := by decide +kernel
theorem dM_plain_12 : decode cM_plain 12 = .ok (.bipush 48, 2) := by decide +kernel
theorem dM_plain_14 : decode cM_plain 14 = .ok (.invokevirtual 145, 3) := by decide +kernel
theorem dM_plain_17 : decode cM_plain 17 = .ok (.iconst 0, 1) := by decide +kernel
theorem dM_plain_18 : decode cM_plain 18 = .ok (.istore_n 1, 1) := by decide +kernel
theorem dM_plain_19 : decode cM_plain 19 = .ok (.iload_n 1, 1) := by decide +kernel
theorem dM_plain_20 : decode cM_plain 20 = .ok (.aload_n 0, 1) := by decide +kernel
theorem dM_plain_21 : decode cM_plain 21 = .ok (.getfield 30, 3) := by decide +kernel
theorem dM_plain_24 : decode cM_plain 24 = .ok (.getfield 98, 3) := by decide +kernel
theorem dM_plain_27 : decode cM_plain 27 = .ok (.if_icmp .ge 21, 3) := by decide +kernel
theorem dM_plain_30 : decode cM_plain 30 = .ok (.aload_n 0, 1) := by decide +kernel
theorem dM_plain_31 : decode cM_plain 31 = .ok (.aload_n 0, 1) := by decide +kernel
theorem dM_plain_32 : decode cM_plain 32 = .ok (.getfield 30, 3) := by decide +kernel
theorem dM_plain_35 : decode cM_plain 35 = .ok (.iload_n 1, 1) := by decide +kernel
theorem dM_plain_36 : decode cM_plain 36 = .ok (.invokestatic 184, 3) := by decide +kernel
theorem dM_plain_39 : decode cM_plain 39 = .ok (.invokevirtual 145, 3) := by decide +kernel
theorem dM_plain_42 : decode cM_plain 42 = .ok (.iinc 1 1, 3) := by decide +kernel
theorem dM_plain_45 : decode cM_plain 45 = .ok (.goto (-26), 3) := by decide +kernel
theorem dM_plain_48 : decode cM_plain 48 = .ok (.aload_n 0, 1) := by decide +kernel
theorem dM_plain_49 : decode cM_plain 49 = .ok (.bipush 46, 2) := by decide +kernel
theorem dM_plain_51 : decode cM_plain 51 = .ok (.invokevirtual 145, 3) := by decide +kernel
theorem dM_plain_54 : decode cM_plain 54 = .ok (.aload_n 0, 1) := by decide +kernel
theorem dM_plain_55 : decode cM_plain 55 = .ok (.getfield 30, 3) := by decide +kernel
theorem dM_plain_58 : decode cM_plain 58 = .ok (.getfield 98, 3) := by decide +kernel
theorem dM_plain_61 : decode cM_plain 61 = .ok (.istore_n 1, 1) := by decide +kernel
theorem dM_plain_62 : decode cM_plain 62 = .ok (.iload_n 1, 1) := by decide +kernel
theorem dM_plain_63 : decode cM_plain 63 = .ok (.ifCond .ge 15, 3) := by decide +kernel
theorem dM_plain_66 : decode cM_plain 66 = .ok (.aload_n 0, 1) := by decide +kernel
theorem dM_plain_67 : decode cM_plain 67 = .ok (.bipush 48, 2) := by decide +kernel
theorem dM_plain_69 : decode cM_plain 69 = .ok (.invokevirtual 145, 3) := by decide +kernel
theorem dM_plain_72 : decode cM_plain 72 = .ok (.iinc 1 1, 3) := by decide +kernel
theorem dM_plain_75 : decode cM_plain 75 = .ok (.goto (-13), 3) := by decide +kernel
theorem dM_plain_78 : decode cM_plain 78 = .ok (.aload_n 0, 1) := by decide +kernel
theorem dM_plain_79 : decode cM_plain 79 = .ok (.getfield 30, 3) := by decide +kernel
theorem dM_plain_82 : decode cM_plain 82 = .ok (.getfield 98, 3) := by decide +kernel
theorem dM_plain_85 : decode cM_plain 85 = .ok (.ifCond .ge 7, 3) := by decide +kernel
theorem dM_plain_88 : decode cM_plain 88 = .ok (.iconst 0, 1) := by decide +kernel
theorem dM_plain_89 : decode cM_plain 89 = .ok (.goto 10, 3) := by decide +kernel
theorem dM_plain_92 : decode cM_plain 92 = .ok (.aload_n 0, 1) := by decide +kernel
theorem dM_plain_93 : decode cM_plain 93 = .ok (.getfield 30, 3) := by decide +kernel
theorem dM_plain_96 : decode cM_plain 96 = .ok (.getfield 98, 3) := by decide +kernel
theorem dM_plain_99 : decode cM_plain 99 = .ok (.istore_n 1, 1) := by decide +kernel
theorem dM_plain_100 : decode cM_plain 100 = .ok (.iload_n 1, 1) := by decide +kernel
theorem dM_plain_101 : decode cM_plain 101 = .ok (.istore_n 2, 1) := by decide +kernel
theorem dM_plain_102 : decode cM_plain 102 = .ok (.iload_n 2, 1) := by decide +kernel
theorem dM_plain_103 : decode cM_plain 103 = .ok (.aload_n 0, 1) := by decide +kernel
theorem dM_plain_104 : decode cM_plain 104 = .ok (.getfield 30, 3) := by decide +kernel
theorem dM_plain_107 : decode cM_plain 107 = .ok (.getfield 88, 3) := by decide +kernel
theorem dM_plain_110 : decode cM_plain 110 = .ok (.if_icmp .ge 21, 3) := by decide +kernel
theorem dM_plain_113 : decode cM_plain 113 = .ok (.aload_n 0, 1) := by decide +kernel
theorem dM_plain_114 : decode cM_plain 114 = .ok (.aload_n 0, 1) := by decide +kernel
theorem dM_plain_115 : decode cM_plain 115 = .ok (.getfield 30, 3) := by decide +kernel
theorem dM_plain_118 : decode cM_plain 118 = .ok (.iload_n 2, 1) := by decide +kernel
theorem dM_plain_119 : decode cM_plain 119 = .ok (.invokestatic 184, 3) := by decide +kernel
theorem dM_plain_122 : decode cM_plain 122 = .ok (.invokevirtual 145, 3) := by decide +kernel
theorem dM_plain_125 : decode cM_plain 125 = .ok (.iinc 2 1, 3) := by decide +kernel
theorem dM_plain_128 : decode cM_plain 128 = .ok (.goto (-26), 3) := by decide +kernel
theorem dM_plain_131 : decode cM_plain 131 = .ok (.iload_n 1, 1) := by decide +kernel
theorem dM_plain_132 : decode cM_plain 132 = .ok (.aload_n 0, 1) := by decide +kernel
theorem dM_plain_133 : decode cM_plain 133 = .ok (.getfield 30, 3) := by decide +kernel
theorem dM_plain_136 : decode cM_plain 136 = .ok (.getfield 88, 3) := by decide +kernel
theorem dM_plain_139 : decode cM_plain 139 = .ok (.if_icmp .lt 9, 3) := by decide +kernel
theorem dM_plain_142 : decode cM_plain 142 = .ok (.aload_n 0, 1) := by decide +kernel
theorem dM_plain_143 : decode cM_plain 143 = .ok (.bipush 48, 2) := by decide +kernel
theorem dM_plain_145 : decode cM_plain 145 = .ok (.invokevirtual 145, 3) := by decide +kernel
theorem dM_plain_148 : decode cM_plain 148 = .ok (.return_, 1) := by decide +kernel
theorem dM_digit_0 : decode cM_digit 0 = .ok (.iload_n 1, 1) := by decide +kernel
theorem dM_digit_1 : decode cM_digit 1 = .ok (.ifCond .lt 23, 3) := by decide +kernel
theorem dM_digit_4 : decode cM_digit 4 = .ok (.iload_n 1, 1) := by decide +kernel
theorem dM_digit_5 : decode cM_digit 5 = .ok (.aload_n 0, 1) := by decide +kernel
theorem dM_digit_6 : decode cM_digit 6 = .ok (.getfield 88, 3) := by decide +kernel
theorem dM_digit_9 : decode cM_digit 9 = .ok (.if_icmp .ge 15, 3) := by decide +kernel
theorem dM_digit_12 : decode cM_digit 12 = .ok (.bipush 48, 2) := by decide +kernel
theorem dM_digit_14 : decode cM_digit 14 = .ok (.aload_n 0, 1) := by decide +kernel
theorem dM_digit_15 : decode cM_digit 15 = .ok (.getfield 95, 3) := by decide +kernel
theorem dM_digit_18 : decode cM_digit 18 = .ok (.iload_n 1, 1) := by decide +kernel
theorem dM_digit_19 : decode cM_digit 19 = .ok (.baload, 1) := by decide +kernel
theorem dM_digit_20 : decode cM_digit 20 = .ok (.iadd, 1) := by decide +kernel
theorem dM_digit_21 : decode cM_digit 21 = .ok (.goto 5, 3) := by decide +kernel
theorem dM_digit_24 : decode cM_digit 24 = .ok (.bipush 48, 2) := by decide +kernel
theorem dM_digit_26 : decode cM_digit 26 = .ok (.ireturn, 1) := by decide +kernel
theorem dM_powered_0 : decode cM_powered 0 = .ok (.aload_n 0, 1) := by decide +kernel
theorem dM_powered_1 : decode cM_powered 1 = .ok (.aload_n 0, 1) := by decide +kernel
theorem dM_powered_2 : decode cM_powered 2 = .ok (.getfield 30, 3) := by decide +kernel
theorem dM_powered_5 : decode cM_powered 5 = .ok (.iconst 0, 1) := by decide +kernel
theorem dM_powered_6 : decode cM_powered 6 = .ok (.invokestatic 184, 3) := by decide +kernel
theorem dM_powered_9 : decode cM_powered 9 = .ok (.invokevirtual 145, 3) := by decide +kernel
theorem dM_powered_12 : decode cM_powered 12 = .ok (.aload_n 0, 1) := by decide +kernel
theorem dM_powered_13 : decode cM_powered 13 = .ok (.bipush 46, 2) := by decide +kernel
theorem dM_powered_15 : decode cM_powered 15 = .ok (.invokevirtual 145, 3) := by decide +kernel
theorem dM_powered_18 : decode cM_powered 18 = .ok (.iconst 1, 1) := by decide +kernel
theorem dM_powered_19 : decode cM_powered 19 = .ok (.istore_n 1, 1) := by decide +kernel
theorem dM_powered_20 : decode cM_powered 20 = .ok (.iload_n 1, 1) := by decide +kernel
theorem dM_powered_21 : decode cM_powered 21 = .ok (.aload_n 0, 1) := by decide +kernel
theorem dM_powered_22 : decode cM_powered 22 = .ok (.getfield 30, 3) := by decide +kernel
theorem dM_powered_25 : decode cM_powered 25 = .ok (.getfield 88, 3) := by decide +kernel
theorem dM_powered_28 : decode cM_powered 28 = .ok (.if_icmp .ge 21, 3) := by decide +kernel
theorem dM_powered_31 : decode cM_powered 31 = .ok (.aload_n 0, 1) := by decide +kernel
theorem dM_powered_32 : decode cM_powered 32 = .ok (.aload_n 0, 1) := by decide +kernel
theorem dM_powered_33 : decode cM_powered 33 = .ok (.getfield 30, 3) := by decide +kernel
theorem dM_powered_36 : decode cM_powered 36 = .ok (.iload_n 1, 1) := by decide +kernel
theorem dM_powered_37 : decode cM_powered 37 = .ok (.invokestatic 184, 3) := by decide +kernel
theorem dM_powered_40 : decode cM_powered 40 = .ok (.invokevirtual 145, 3) := by decide +kernel
theorem dM_powered_43 : decode cM_powered 43 = .ok (.iinc 1 1, 3) := by decide +kernel
theorem dM_powered_46 : decode cM_powered 46 = .ok (.goto (-26), 3) := by decide +kernel
theorem dM_powered_49 : decode cM_powered 49 = .ok (.aload_n 0, 1) := by decide +kernel
theorem dM_powered_50 : decode cM_powered 50 = .ok (.getfield 30, 3) := by decide +kernel
theorem dM_powered_53 : decode cM_powered 53 = .ok (.getfield 88, 3) := by decide +kernel
theorem dM_powered_56 : decode cM_powered 56 = .ok (.iconst 1, 1) := by decide +kernel
theorem dM_powered_57 : decode cM_powered 57 = .ok (.if_icmp .ne 9, 3) := by decide +kernel
theorem dM_powered_60 : decode cM_powered 60 = .ok (.aload_n 0, 1) := by decide +kernel
theorem dM_powered_61 : decode cM_powered 61 = .ok (.bipush 48, 2) := by decide +kernel
theorem dM_powered_63 : decode cM_powered 63 = .ok (.invokevirtual 145, 3) := by decide +kernel
theorem dM_powered_66 : decode cM_powered 66 = .ok (.aload_n 0, 1) := by decide +kernel
theorem dM_powered_67 : decode cM_powered 67 = .ok (.bipush 69, 2) := by decide +kernel
theorem dM_powered_69 : decode cM_powered 69 = .ok (.invokevirtual 145, 3) := by decide +kernel
theorem dM_powered_72 : decode cM_powered 72 = .ok (.aload_n 0, 1) := by decide +kernel
theorem dM_powered_73 : decode cM_powered 73 = .ok (.aload_n 0, 1) := by decide +kernel
theorem dM_powered_74 : decode cM_powered 74 = .ok (.getfield 30, 3) := by decide +kernel
theorem dM_powered_77 : decode cM_powered 77 = .ok (.getfield 98, 3) := by decide +kernel
theorem dM_powered_80 : decode cM_powered 80 = .ok (.iconst 1, 1) := by decide +kernel
theorem dM_powered_81 : decode cM_powered 81 = .ok (.isub, 1) := by decide +kernel
theorem dM_powered_82 : decode cM_powered 82 = .ok (.i2l, 1) := by decide +kernel
theorem dM_powered_83 : decode cM_powered 83 = .ok (.invokevirtual 188, 3) := by decide +kernel
theorem dM_powered_86 : decode cM_powered 86 = .ok (.return_, 1) := by decide +kernel
theorem dM_putNumber_0 : decode cM_putNumber 0 = .ok (.aload_n 0, 1) := by decide +kernel
theorem dM_putNumber_1 : decode cM_putNumber 1 = .ok (.lload_n 1, 1) := by decide +kernel
theorem dM_putNumber_2 : decode cM_putNumber 2 = .ok (.invokestatic 149, 3) := by decide +kernel
theorem dM_putNumber_5 : decode cM_putNumber 5 = .ok (.invokevirtual 155, 3) := by decide +kernel
theorem dM_putNumber_8 : decode cM_putNumber 8 = .ok (.return_, 1) := by decide +kernel
theorem dJL_toString_0 : decode cJL_toString 0 = .ok (.lload_n 0, 1) := by decide +kernel
theorem dJL_toString_1 : decode cJL_toString 1 = .ok (.invokestatic 118, 3) := by decide +kernel
theorem dJL_toString_4 : decode cJL_toString 4 = .ok (.istore_n 2, 1) := by decide +kernel
theorem dJL_toString_5 : decode cJL_toString 5 = .ok (.getstatic 13, 3) := by decide +kernel
theorem dJL_toString_8 : decode cJL_toString 8 = .ok (.ifCond .eq 24, 3) := by decide +kernel
theorem dJL_toString_11 : decode cJL_toString 11 = .ok (.iload_n 2, 1) := by decide +kernel
theorem dJL_toString_12 : decode cJL_toString 12 = .ok (.newarray .byte, 2) := by decide +kernel
theorem dJL_toString_14 : decode cJL_toString 14 = .ok (.astore_n 3, 1) := by decide +kernel
theorem dJL_toString_15 : decode cJL_toString 15 = .ok (.lload_n 0, 1) := by decide +kernel
theorem dJL_toString_16 : decode cJL_toString 16 = .ok (.iload_n 2, 1) := by decide +kernel
theorem dJL_toString_17 : decode cJL_toString 17 = .ok (.aload_n 3, 1) := by decide +kernel
theorem dJL_toString_18 : decode cJL_toString 18 = .ok (.invokestatic 121, 3) := by decide +kernel
theorem dJL_toString_21 : decode cJL_toString 21 = .ok (.pop, 1) := by decide +kernel
theorem dJL_toString_22 : decode cJL_toString 22 = .ok (.new 5, 3) := by decide +kernel
theorem dJL_toString_25 : decode cJL_toString 25 = .ok (.dup, 1) := by decide +kernel
theorem dJL_toString_26 : decode cJL_toString 26 = .ok (.aload_n 3, 1) := by decide +kernel
theorem dJL_toString_27 : decode cJL_toString 27 = .ok (.iconst 0, 1) := by decide +kernel
theorem dJL_toString_28 : decode cJL_toString 28 = .ok (.invokespecial 112, 3) := by decide +kernel
theorem dJL_toString_31 : decode cJL_toString 31 = .ok (.areturn, 1) := by decide +kernel
theorem dJL_toString_32 : decode cJL_toString 32 = .ok (.iload_n 2, 1) := by decide +kernel
theorem dJL_toString_33 : decode cJL_toString 33 = .ok (.iconst 2, 1) := by decide +kernel
theorem dJL_toString_34 : decode cJL_toString 34 = .ok (.imul, 1) := by decide +kernel
theorem dJL_toString_35 : decode cJL_toString 35 = .ok (.newarray .byte, 2) := by decide +kernel
theorem dJL_toString_37 : decode cJL_toString 37 = .ok (.astore_n 3, 1) := by decide +kernel
theorem dJL_toString_38 : decode cJL_toString 38 = .ok (.lload_n 0, 1) := by decide +kernel
theorem dJL_toString_39 : decode cJL_toString 39 = .ok (.iload_n 2, 1) := by decide +kernel
theorem dJL_toString_40 : decode cJL_toString 40 = .ok (.aload_n 3, 1) := by decide +kernel
theorem dJL_toString_41 : decode cJL_toString 41 = .ok (.invokestatic 125, 3) := by decide +kernel
theorem dJL_toString_44 : decode cJL_toString 44 = .ok (.pop, 1) := by decide +kernel
theorem dJL_toString_45 : decode cJL_toString 45 = .ok (.new 5, 3) := by decide +kernel
theorem dJL_toString_48 : decode cJL_toString 48 = .ok (.dup, 1) := by decide +kernel
theorem dJL_toString_49 : decode cJL_toString 49 = .ok (.aload_n 3, 1) := by decide +kernel
theorem dJL_toString_50 : decode cJL_toString 50 = .ok (.iconst 1, 1) := by decide +kernel
theorem dJL_toString_51 : decode cJL_toString 51 = .ok (.invokespecial 112, 3) := by decide +kernel
theorem dJL_toString_54 : decode cJL_toString 54 = .ok (.areturn, 1) := by decide +kernel
theorem dJL_stringSize_0 : decode cJL_stringSize 0 = .ok (.iconst 1, 1) := by decide +kernel
theorem dJL_stringSize_1 : decode cJL_stringSize 1 = .ok (.istore_n 2, 1) := by decide +kernel
theorem dJL_stringSize_2 : decode cJL_stringSize 2 = .ok (.lload_n 0, 1) := by decide +kernel
theorem dJL_stringSize_3 : decode cJL_stringSize 3 = .ok (.lconst 0, 1) := by decide +kernel
theorem dJL_stringSize_4 : decode cJL_stringSize 4 = .ok (.lcmp, 1) := by decide +kernel
theorem dJL_stringSize_5 : decode cJL_stringSize 5 = .ok (.ifCond .lt 8, 3) := by decide +kernel
theorem dJL_stringSize_8 : decode cJL_stringSize 8 = .ok (.iconst 0, 1) := by decide +kernel
theorem dJL_stringSize_9 : decode cJL_stringSize 9 = .ok (.istore_n 2, 1) := by decide +kernel
theorem dJL_stringSize_10 : decode cJL_stringSize 10 = .ok (.lload_n 0, 1) := by decide +kernel
theorem dJL_stringSize_11 : decode cJL_stringSize 11 = .ok (.lneg, 1) := by decide +kernel
theorem dJL_stringSize_12 : decode cJL_stringSize 12 = .ok (.lstore_n 0, 1) := by decide +kernel
theorem dJL_stringSize_13 : decode cJL_stringSize 13 = .ok (.ldc2_w 140, 3) := by decide +kernel
theorem dJL_stringSize_16 : decode cJL_stringSize 16 = .ok (.lstore_n 3, 1) := by decide +kernel
theorem dJL_stringSize_17 : decode cJL_stringSize 17 = .ok (.iconst 1, 1) := by decide +kernel
theorem dJL_stringSize_18 : decode cJL_stringSize 18 = .ok (.istore 5, 2) := by decide +kernel
theorem dJL_stringSize_20 : decode cJL_stringSize 20 = .ok (.iload 5, 2) := by decide +kernel
theorem dJL_stringSize_22 : decode cJL_stringSize 22 = .ok (.bipush 19, 2) := by decide +kernel
theorem dJL_stringSize_24 : decode cJL_stringSize 24 = .ok (.if_icmp .ge 26, 3) := by decide +kernel
theorem dJL_stringSize_27 : decode cJL_stringSize 27 = .ok (.lload_n 0, 1) := by decide +kernel
theorem dJL_stringSize_28 : decode cJL_stringSize 28 = .ok (.lload_n 3, 1) := by decide +kernel
theorem dJL_stringSize_29 : decode cJL_stringSize 29 = .ok (.lcmp, 1) := by decide +kernel
theorem dJL_stringSize_30 : decode cJL_stringSize 30 = .ok (.ifCond .le 8, 3) := by decide +kernel
theorem dJL_stringSize_33 : decode cJL_stringSize 33 = .ok (.iload 5, 2) := by decide +kernel
theorem dJL_stringSize_35 : decode cJL_stringSize 35 = .ok (.iload_n 2, 1) := by decide +kernel
theorem dJL_stringSize_36 : decode cJL_stringSize 36 = .ok (.iadd, 1) := by decide +kernel
theorem dJL_stringSize_37 : decode cJL_stringSize 37 = .ok (.ireturn, 1) := by decide +kernel
theorem dJL_stringSize_38 : decode cJL_stringSize 38 = .ok (.ldc2_w 53, 3) := by decide +kernel
theorem dJL_stringSize_41 : decode cJL_stringSize 41 = .ok (.lload_n 3, 1) := by decide +kernel
theorem dJL_stringSize_42 : decode cJL_stringSize 42 = .ok (.lmul, 1) := by decide +kernel
theorem dJL_stringSize_43 : decode cJL_stringSize 43 = .ok (.lstore_n 3, 1) := by decide +kernel
theorem dJL_stringSize_44 : decode cJL_stringSize 44 = .ok (.iinc 5 1, 3) := by decide +kernel
theorem dJL_stringSize_47 : decode cJL_stringSize 47 = .ok (.goto (-27), 3) := by decide +kernel
theorem dJL_stringSize_50 : decode cJL_stringSize 50 = .ok (.bipush 19, 2) := by decide +kernel
theorem dJL_stringSize_52 : decode cJL_stringSize 52 = .ok (.iload_n 2, 1) := by decide +kernel
theorem dJL_stringSize_53 : decode cJL_stringSize 53 = .ok (.iadd, 1) := by decide +kernel
theorem dJL_stringSize_54 : decode cJL_stringSize 54 = .ok (.ireturn, 1) := by decide +kernel
theorem dJL_getChars_0 : decode cJL_getChars 0 = .ok (.iload_n 2, 1) := by decide +kernel
theorem dJL_getChars_1 : decode cJL_getChars 1 = .ok (.istore 7, 2) := by decide +kernel
theorem dJL_getChars_3 : decode cJL_getChars 3 = .ok (.lload_n 0, 1) := by decide +kernel
theorem dJL_getChars_4 : decode cJL_getChars 4 = .ok (.lconst 0, 1) := by decide +kernel
theorem dJL_getChars_5 : decode cJL_getChars 5 = .ok (.lcmp, 1) := by decide +kernel
theorem dJL_getChars_6 : decode cJL_getChars 6 = .ok (.ifCond .ge 7, 3) := by decide +kernel
theorem dJL_getChars_9 : decode cJL_getChars 9 = .ok (.iconst 1, 1) := by decide +kernel
theorem dJL_getChars_10 : decode cJL_getChars 10 = .ok (.goto 4, 3) := by decide +kernel
theorem dJL_getChars_13 : decode cJL_getChars 13 = .ok (.iconst 0, 1) := by decide +kernel
theorem dJL_getChars_14 : decode cJL_getChars 14 = .ok (.istore 8, 2) := by decide +kernel
theorem dJL_getChars_16 : decode cJL_getChars 16 = .ok (.iload 8, 2) := by decide +kernel
theorem dJL_getChars_18 : decode cJL_getChars 18 = .ok (.ifCond .ne 6, 3) := by decide +kernel
theorem dJL_getChars_21 : decode cJL_getChars 21 = .ok (.lload_n 0, 1) := by decide +kernel
theorem dJL_getChars_22 : decode cJL_getChars 22 = .ok (.lneg, 1) := by decide +kernel
theorem dJL_getChars_23 : decode cJL_getChars 23 = .ok (.lstore_n 0, 1) := by decide +kernel
theorem dJL_getChars_24 : decode cJL_getChars 24 = .ok (.lload_n 0, 1) := by decide +kernel
theorem dJL_getChars_25 : decode cJL_getChars 25 = .ok (.ldc2_w 129, 3) := by decide +kernel
theorem dJL_getChars_28 : decode cJL_getChars 28 = .ok (.lcmp, 1) := by decide +kernel
theorem dJL_getChars_29 : decode cJL_getChars 29 = .ok (.ifCond .gt 53, 3) := by decide +kernel
theorem dJL_getChars_32 : decode cJL_getChars 32 = .ok (.lload_n 0, 1) := by decide +kernel
theorem dJL_getChars_33 : decode cJL_getChars 33 = .ok (.ldc2_w 131, 3) := by decide +kernel
theorem dJL_getChars_36 : decode cJL_getChars 36 = .ok (.ldiv, 1) := by decide +kernel
theorem dJL_getChars_37 : decode cJL_getChars 37 = .ok (.lstore 4, 2) := by decide +kernel
theorem dJL_getChars_39 : decode cJL_getChars 39 = .ok (.lload 4, 2) := by decide +kernel
theorem dJL_getChars_41 : decode cJL_getChars 41 = .ok (.ldc2_w 131, 3) := by decide +kernel
theorem dJL_getChars_44 : decode cJL_getChars 44 = .ok (.lmul, 1) := by decide +kernel
theorem dJL_getChars_45 : decode cJL_getChars 45 = .ok (.lload_n 0, 1) := by decide +kernel
theorem dJL_getChars_46 : decode cJL_getChars 46 = .ok (.lsub, 1) := by decide +kernel
theorem dJL_getChars_47 : decode cJL_getChars 47 = .ok (.l2i, 1) := by decide +kernel
theorem dJL_getChars_48 : decode cJL_getChars 48 = .ok (.istore 6, 2) := by decide +kernel
theorem dJL_getChars_50 : decode cJL_getChars 50 = .ok (.lload 4, 2) := by decide +kernel
theorem dJL_getChars_52 : decode cJL_getChars 52 = .ok (.lstore_n 0, 1) := by decide +kernel
theorem dJL_getChars_53 : decode cJL_getChars 53 = .ok (.aload_n 3, 1) := by decide +kernel
theorem dJL_getChars_54 : decode cJL_getChars 54 = .ok (.iinc 7 (-1), 3) := by decide +kernel
theorem dJL_getChars_57 : decode cJL_getChars 57 = .ok (.iload 7, 2) := by decide +kernel
theorem dJL_getChars_59 : decode cJL_getChars 59 = .ok (.getstatic 133, 3) := by decide +kernel
theorem dJL_getChars_62 : decode cJL_getChars 62 = .ok (.iload 6, 2) := by decide +kernel
theorem dJL_getChars_64 : decode cJL_getChars 64 = .ok (.baload, 1) := by decide +kernel
theorem dJL_getChars_65 : decode cJL_getChars 65 = .ok (.bastore, 1) := by decide +kernel
theorem dJL_getChars_66 : decode cJL_getChars 66 = .ok (.aload_n 3, 1) := by decide +kernel
theorem dJL_getChars_67 : decode cJL_getChars 67 = .ok (.iinc 7 (-1), 3) := by decide +kernel
theorem dJL_getChars_70 : decode cJL_getChars 70 = .ok (.iload 7, 2) := by decide +kernel
theorem dJL_getChars_72 : decode cJL_getChars 72 = .ok (.getstatic 137, 3) := by decide +kernel
theorem dJL_getChars_75 : decode cJL_getChars 75 = .ok (.iload 6, 2) := by decide +kernel
theorem dJL_getChars_77 : decode cJL_getChars 77 = .ok (.baload, 1) := by decide +kernel
theorem dJL_getChars_78 : decode cJL_getChars 78 = .ok (.bastore, 1) := by decide +kernel
theorem dJL_getChars_79 : decode cJL_getChars 79 = .ok (.goto (-55), 3) := by decide +kernel
theorem dJL_getChars_82 : decode cJL_getChars 82 = .ok (.lload_n 0, 1) := by decide +kernel
theorem dJL_getChars_83 : decode cJL_getChars 83 = .ok (.l2i, 1) := by decide +kernel
theorem dJL_getChars_84 : decode cJL_getChars 84 = .ok (.istore 10, 2) := by decide +kernel
theorem dJL_getChars_86 : decode cJL_getChars 86 = .ok (.iload 10, 2) := by decide +kernel
theorem dJL_getChars_88 : decode cJL_getChars 88 = .ok (.bipush (-100), 2) := by decide +kernel
theorem dJL_getChars_90 : decode cJL_getChars 90 = .ok (.if_icmp .gt 53, 3) := by decide +kernel
theorem dJL_getChars_93 : decode cJL_getChars 93 = .ok (.iload 10, 2) := by decide +kernel
theorem dJL_getChars_95 : decode cJL_getChars 95 = .ok (.bipush 100, 2) := by decide +kernel
theorem dJL_getChars_97 : decode cJL_getChars 97 = .ok (.idiv, 1) := by decide +kernel
theorem dJL_getChars_98 : decode cJL_getChars 98 = .ok (.istore 9, 2) := by decide +kernel
theorem dJL_getChars_100 : decode cJL_getChars 100 = .ok (.iload 9, 2) := by decide +kernel
theorem dJL_getChars_102 : decode cJL_getChars 102 = .ok (.bipush 100, 2) := by decide +kernel
theorem dJL_getChars_104 : decode cJL_getChars 104 = .ok (.imul, 1) := by decide +kernel
theorem dJL_getChars_105 : decode cJL_getChars 105 = .ok (.iload 10, 2) := by decide +kernel
theorem dJL_getChars_107 : decode cJL_getChars 107 = .ok (.isub, 1) := by decide +kernel
theorem dJL_getChars_108 : decode cJL_getChars 108 = .ok (.istore 6, 2) := by decide +kernel
theorem dJL_getChars_110 : decode cJL_getChars 110 = .ok (.iload 9, 2) := by decide +kernel
theorem dJL_getChars_112 : decode cJL_getChars 112 = .ok (.istore 10, 2) := by decide +kernel
theorem dJL_getChars_114 : decode cJL_getChars 114 = .ok (.aload_n 3, 1) := by decide +kernel
theorem dJL_getChars_115 : decode cJL_getChars 115 = .ok (.iinc 7 (-1), 3) := by decide +kernel
theorem dJL_getChars_118 : decode cJL_getChars 118 = .ok (.iload 7, 2) := by decide +kernel
theorem dJL_getChars_120 : decode cJL_getChars 120 = .ok (.getstatic 133, 3) := by decide +kernel
theorem dJL_getChars_123 : decode cJL_getChars 123 = .ok (.iload 6, 2) := by decide +kernel
theorem dJL_getChars_125 : decode cJL_getChars 125 = .ok (.baload, 1) := by decide +kernel
theorem dJL_getChars_126 : decode cJL_getChars 126 = .ok (.bastore, 1) := by decide +kernel
theorem dJL_getChars_127 : decode cJL_getChars 127 = .ok (.aload_n 3, 1) := by decide +kernel
theorem dJL_getChars_128 : decode cJL_getChars 128 = .ok (.iinc 7 (-1), 3) := by decide +kernel
theorem dJL_getChars_131 : decode cJL_getChars 131 = .ok (.iload 7, 2) := by decide +kernel
theorem dJL_getChars_133 : decode cJL_getChars 133 = .ok (.getstatic 137, 3) := by decide +kernel
theorem dJL_getChars_136 : decode cJL_getChars 136 = .ok (.iload 6, 2) := by decide +kernel
theorem dJL_getChars_138 : decode cJL_getChars 138 = .ok (.baload, 1) := by decide +kernel
theorem dJL_getChars_139 : decode cJL_getChars 139 = .ok (.bastore, 1) := by decide +kernel
theorem dJL_getChars_140 : decode cJL_getChars 140 = .ok (.goto (-54), 3) := by decide +kernel
theorem dJL_getChars_143 : decode cJL_getChars 143 = .ok (.aload_n 3, 1) := by decide +kernel
theorem dJL_getChars_144 : decode cJL_getChars 144 = .ok (.iinc 7 (-1), 3) := by decide +kernel
theorem dJL_getChars_147 : decode cJL_getChars 147 = .ok (.iload 7, 2) := by decide +kernel
theorem dJL_getChars_149 : decode cJL_getChars 149 = .ok (.getstatic 133, 3) := by decide +kernel
theorem dJL_getChars_152 : decode cJL_getChars 152 = .ok (.iload 10, 2) := by decide +kernel
theorem dJL_getChars_154 : decode cJL_getChars 154 = .ok (.ineg, 1) := by decide +kernel
theorem dJL_getChars_155 : decode cJL_getChars 155 = .ok (.baload, 1) := by decide +kernel
theorem dJL_getChars_156 : decode cJL_getChars 156 = .ok (.bastore, 1) := by decide +kernel
theorem dJL_getChars_157 : decode cJL_getChars 157 = .ok (.iload 10, 2) := by decide +kernel
theorem dJL_getChars_159 : decode cJL_getChars 159 = .ok (.bipush (-9), 2) := by decide +kernel
theorem dJL_getChars_161 : decode cJL_getChars 161 = .ok (.if_icmp .ge 17, 3) := by decide +kernel
theorem dJL_getChars_164 : decode cJL_getChars 164 = .ok (.aload_n 3, 1) := by decide +kernel
theorem dJL_getChars_165 : decode cJL_getChars 165 = .ok (.iinc 7 (-1), 3) := by decide +kernel
theorem dJL_getChars_168 : decode cJL_getChars 168 = .ok (.iload 7, 2) := by decide +kernel
theorem dJL_getChars_170 : decode cJL_getChars 170 = .ok (.getstatic 137, 3) := by decide +kernel
theorem dJL_getChars_173 : decode cJL_getChars 173 = .ok (.iload 10, 2) := by decide +kernel
theorem dJL_getChars_175 : decode cJL_getChars 175 = .ok (.ineg, 1) := by decide +kernel
theorem dJL_getChars_176 : decode cJL_getChars 176 = .ok (.baload, 1) := by decide +kernel
theorem dJL_getChars_177 : decode cJL_getChars 177 = .ok (.bastore, 1) := by decide +kernel
theorem dJL_getChars_178 : decode cJL_getChars 178 = .ok (.iload 8, 2) := by decide +kernel
theorem dJL_getChars_180 : decode cJL_getChars 180 = .ok (.ifCond .eq 12, 3) := by decide +kernel
theorem dJL_getChars_183 : decode cJL_getChars 183 = .ok (.aload_n 3, 1) := by decide +kernel
theorem dJL_getChars_184 : decode cJL_getChars 184 = .ok (.iinc 7 (-1), 3) := by decide +kernel
theorem dJL_getChars_187 : decode cJL_getChars 187 = .ok (.iload 7, 2) := by decide +kernel
theorem dJL_getChars_189 : decode cJL_getChars 189 = .ok (.bipush 45, 2) := by decide +kernel
theorem dJL_getChars_191 : decode cJL_getChars 191 = .ok (.bastore, 1) := by decide +kernel
theorem dJL_getChars_192 : decode cJL_getChars 192 = .ok (.iload 7, 2) := by decide +kernel
theorem dJL_getChars_194 : decode cJL_getChars 194 = .ok (.ireturn, 1) := by decide +kernel
theorem dJS_init_0 : decode cJS_init 0 = .ok (.aload_n 0, 1) := by decide +kernel
theorem dJS_init_1 : decode cJS_init 1 = .ok (.invokespecial 1, 3) := by decide +kernel
theorem dJS_init_4 : decode cJS_init 4 = .ok (.aload_n 0, 1) := by decide +kernel
theorem dJS_init_5 : decode cJS_init 5 = .ok (.aload_n 1, 1) := by decide +kernel
theorem dJS_init_6 : decode cJS_init 6 = .ok (.putfield 9, 3) := by decide +kernel
theorem dJS_init_9 : decode cJS_init 9 = .ok (.aload_n 0, 1) := by decide +kernel
theorem dJS_init_10 : decode cJS_init 10 = .ok (.iload_n 2, 1) := by decide +kernel
theorem dJS_init_11 : decode cJS_init 11 = .ok (.putfield 15, 3) := by decide +kernel
theorem dJS_init_14 : decode cJS_init 14 = .ok (.return_, 1) := by decide +kernel
theorem dJU_getChars_0 : decode cJU_getChars 0 = .ok (.iload_n 2, 1) := by decide +kernel
theorem dJU_getChars_1 : decode cJU_getChars 1 = .ok (.istore 7, 2) := by decide +kernel
theorem dJU_getChars_3 : decode cJU_getChars 3 = .ok (.lload_n 0, 1) := by decide +kernel
theorem dJU_getChars_4 : decode cJU_getChars 4 = .ok (.lconst 0, 1) := by decide +kernel
theorem dJU_getChars_5 : decode cJU_getChars 5 = .ok (.lcmp, 1) := by decide +kernel
theorem dJU_getChars_6 : decode cJU_getChars 6 = .ok (.ifCond .ge 7, 3) := by decide +kernel
theorem dJU_getChars_9 : decode cJU_getChars 9 = .ok (.iconst 1, 1) := by decide +kernel
theorem dJU_getChars_10 : decode cJU_getChars 10 = .ok (.goto 4, 3) := by decide +kernel
theorem dJU_getChars_13 : decode cJU_getChars 13 = .ok (.iconst 0, 1) := by decide +kernel
theorem dJU_getChars_14 : decode cJU_getChars 14 = .ok (.istore 8, 2) := by decide +kernel
theorem dJU_getChars_16 : decode cJU_getChars 16 = .ok (.iload 8, 2) := by decide +kernel
theorem dJU_getChars_18 : decode cJU_getChars 18 = .ok (.ifCond .ne 6, 3) := by decide +kernel
theorem dJU_getChars_21 : decode cJU_getChars 21 = .ok (.lload_n 0, 1) := by decide +kernel
theorem dJU_getChars_22 : decode cJU_getChars 22 = .ok (.lneg, 1) := by decide +kernel
theorem dJU_getChars_23 : decode cJU_getChars 23 = .ok (.lstore_n 0, 1) := by decide +kernel
theorem dJU_getChars_24 : decode cJU_getChars 24 = .ok (.lload_n 0, 1) := by decide +kernel
theorem dJU_getChars_25 : decode cJU_getChars 25 = .ok (.ldc2_w 410, 3) := by decide +kernel
theorem dJU_getChars_28 : decode cJU_getChars 28 = .ok (.lcmp, 1) := by decide +kernel
theorem dJU_getChars_29 : decode cJU_getChars 29 = .ok (.ifCond .gt 57, 3) := by decide +kernel
theorem dJU_getChars_32 : decode cJU_getChars 32 = .ok (.lload_n 0, 1) := by decide +kernel
theorem dJU_getChars_33 : decode cJU_getChars 33 = .ok (.ldc2_w 412, 3) := by decide +kernel
theorem dJU_getChars_36 : decode cJU_getChars 36 = .ok (.ldiv, 1) := by decide +kernel
theorem dJU_getChars_37 : decode cJU_getChars 37 = .ok (.lstore 4, 2) := by decide +kernel
theorem dJU_getChars_39 : decode cJU_getChars 39 = .ok (.lload 4, 2) := by decide +kernel
theorem dJU_getChars_41 : decode cJU_getChars 41 = .ok (.ldc2_w 412, 3) := by decide +kernel
theorem dJU_getChars_44 : decode cJU_getChars 44 = .ok (.lmul, 1) := by decide +kernel
theorem dJU_getChars_45 : decode cJU_getChars 45 = .ok (.lload_n 0, 1) := by decide +kernel
theorem dJU_getChars_46 : decode cJU_getChars 46 = .ok (.lsub, 1) := by decide +kernel
theorem dJU_getChars_47 : decode cJU_getChars 47 = .ok (.l2i, 1) := by decide +kernel
theorem dJU_getChars_48 : decode cJU_getChars 48 = .ok (.istore 6, 2) := by decide +kernel
theorem dJU_getChars_50 : decode cJU_getChars 50 = .ok (.lload 4, 2) := by decide +kernel
theorem dJU_getChars_52 : decode cJU_getChars 52 = .ok (.lstore_n 0, 1) := by decide +kernel
theorem dJU_getChars_53 : decode cJU_getChars 53 = .ok (.aload_n 3, 1) := by decide +kernel
theorem dJU_getChars_54 : decode cJU_getChars 54 = .ok (.iinc 7 (-1), 3) := by decide +kernel
theorem dJU_getChars_57 : decode cJU_getChars 57 = .ok (.iload 7, 2) := by decide +kernel
theorem dJU_getChars_59 : decode cJU_getChars 59 = .ok (.getstatic 403, 3) := by decide +kernel
theorem dJU_getChars_62 : decode cJU_getChars 62 = .ok (.iload 6, 2) := by decide +kernel
theorem dJU_getChars_64 : decode cJU_getChars 64 = .ok (.baload, 1) := by decide +kernel
theorem dJU_getChars_65 : decode cJU_getChars 65 = .ok (.invokestatic 111, 3) := by decide +kernel
theorem dJU_getChars_68 : decode cJU_getChars 68 = .ok (.aload_n 3, 1) := by decide +kernel
theorem dJU_getChars_69 : decode cJU_getChars 69 = .ok (.iinc 7 (-1), 3) := by decide +kernel
theorem dJU_getChars_72 : decode cJU_getChars 72 = .ok (.iload 7, 2) := by decide +kernel
theorem dJU_getChars_74 : decode cJU_getChars 74 = .ok (.getstatic 407, 3) := by decide +kernel
theorem dJU_getChars_77 : decode cJU_getChars 77 = .ok (.iload 6, 2) := by decide +kernel
theorem dJU_getChars_79 : decode cJU_getChars 79 = .ok (.baload, 1) := by decide +kernel
theorem dJU_getChars_80 : decode cJU_getChars 80 = .ok (.invokestatic 111, 3) := by decide +kernel
theorem dJU_getChars_83 : decode cJU_getChars 83 = .ok (.goto (-59), 3) := by decide +kernel
theorem dJU_getChars_86 : decode cJU_getChars 86 = .ok (.lload_n 0, 1) := by decide +kernel
theorem dJU_getChars_87 : decode cJU_getChars 87 = .ok (.l2i, 1) := by decide +kernel
theorem dJU_getChars_88 : decode cJU_getChars 88 = .ok (.istore 10, 2) := by decide +kernel
theorem dJU_getChars_90 : decode cJU_getChars 90 = .ok (.iload 10, 2) := by decide +kernel
theorem dJU_getChars_92 : decode cJU_getChars 92 = .ok (.bipush (-100), 2) := by decide +kernel
theorem dJU_getChars_94 : decode cJU_getChars 94 = .ok (.if_icmp .gt 57, 3) := by decide +kernel
theorem dJU_getChars_97 : decode cJU_getChars 97 = .ok (.iload 10, 2) := by decide +kernel
theorem dJU_getChars_99 : decode cJU_getChars 99 = .ok (.bipush 100, 2) := by decide +kernel
theorem dJU_getChars_101 : decode cJU_getChars 101 = .ok (.idiv, 1) := by decide +kernel
theorem dJU_getChars_102 : decode cJU_getChars 102 = .ok (.istore 9, 2) := by decide +kernel
theorem dJU_getChars_104 : decode cJU_getChars 104 = .ok (.iload 9, 2) := by decide +kernel
theorem dJU_getChars_106 : decode cJU_getChars 106 = .ok (.bipush 100, 2) := by decide +kernel
theorem dJU_getChars_108 : decode cJU_getChars 108 = .ok (.imul, 1) := by decide +kernel
theorem dJU_getChars_109 : decode cJU_getChars 109 = .ok (.iload 10, 2) := by decide +kernel
theorem dJU_getChars_111 : decode cJU_getChars 111 = .ok (.isub, 1) := by decide +kernel
theorem dJU_getChars_112 : decode cJU_getChars 112 = .ok (.istore 6, 2) := by decide +kernel
theorem dJU_getChars_114 : decode cJU_getChars 114 = .ok (.iload 9, 2) := by decide +kernel
theorem dJU_getChars_116 : decode cJU_getChars 116 = .ok (.istore 10, 2) := by decide +kernel
theorem dJU_getChars_118 : decode cJU_getChars 118 = .ok (.aload_n 3, 1) := by decide +kernel
theorem dJU_getChars_119 : decode cJU_getChars 119 = .ok (.iinc 7 (-1), 3) := by decide +kernel
theorem dJU_getChars_122 : decode cJU_getChars 122 = .ok (.iload 7, 2) := by decide +kernel
theorem dJU_getChars_124 : decode cJU_getChars 124 = .ok (.getstatic 403, 3) := by decide +kernel
theorem dJU_getChars_127 : decode cJU_getChars 127 = .ok (.iload 6, 2) := by decide +kernel
theorem dJU_getChars_129 : decode cJU_getChars 129 = .ok (.baload, 1) := by decide +kernel
theorem dJU_getChars_130 : decode cJU_getChars 130 = .ok (.invokestatic 111, 3) := by decide +kernel
theorem dJU_getChars_133 : decode cJU_getChars 133 = .ok (.aload_n 3, 1) := by decide +kernel
theorem dJU_getChars_134 : decode cJU_getChars 134 = .ok (.iinc 7 (-1), 3) := by decide +kernel
theorem dJU_getChars_137 : decode cJU_getChars 137 = .ok (.iload 7, 2) := by decide +kernel
theorem dJU_getChars_139 : decode cJU_getChars 139 = .ok (.getstatic 407, 3) := by decide +kernel
theorem dJU_getChars_142 : decode cJU_getChars 142 = .ok (.iload 6, 2) := by decide +kernel
theorem dJU_getChars_144 : decode cJU_getChars 144 = .ok (.baload, 1) := by decide +kernel
theorem dJU_getChars_145 : decode cJU_getChars 145 = .ok (.invokestatic 111, 3) := by decide +kernel
theorem dJU_getChars_148 : decode cJU_getChars 148 = .ok (.goto (-58), 3) := by decide +kernel
theorem dJU_getChars_151 : decode cJU_getChars 151 = .ok (.aload_n 3, 1) := by decide +kernel
theorem dJU_getChars_152 : decode cJU_getChars 152 = .ok (.iinc 7 (-1), 3) := by decide +kernel
theorem dJU_getChars_155 : decode cJU_getChars 155 = .ok (.iload 7, 2) := by decide +kernel
theorem dJU_getChars_157 : decode cJU_getChars 157 = .ok (.getstatic 403, 3) := by decide +kernel
theorem dJU_getChars_160 : decode cJU_getChars 160 = .ok (.iload 10, 2) := by decide +kernel
theorem dJU_getChars_162 : decode cJU_getChars 162 = .ok (.ineg, 1) := by decide +kernel
theorem dJU_getChars_163 : decode cJU_getChars 163 = .ok (.baload, 1) := by decide +kernel
theorem dJU_getChars_164 : decode cJU_getChars 164 = .ok (.invokestatic 111, 3) := by decide +kernel
theorem dJU_getChars_167 : decode cJU_getChars 167 = .ok (.iload 10, 2) := by decide +kernel
theorem dJU_getChars_169 : decode cJU_getChars 169 = .ok (.bipush (-9), 2) := by decide +kernel
theorem dJU_getChars_171 : decode cJU_getChars 171 = .ok (.if_icmp .ge 19, 3) := by decide +kernel
theorem dJU_getChars_174 : decode cJU_getChars 174 = .ok (.aload_n 3, 1) := by decide +kernel
theorem dJU_getChars_175 : decode cJU_getChars 175 = .ok (.iinc 7 (-1), 3) := by decide +kernel
theorem dJU_getChars_178 : decode cJU_getChars 178 = .ok (.iload 7, 2) := by decide +kernel
theorem dJU_getChars_180 : decode cJU_getChars 180 = .ok (.getstatic 407, 3) := by decide +kernel
theorem dJU_getChars_183 : decode cJU_getChars 183 = .ok (.iload 10, 2) := by decide +kernel
theorem dJU_getChars_185 : decode cJU_getChars 185 = .ok (.ineg, 1) := by decide +kernel
theorem dJU_getChars_186 : decode cJU_getChars 186 = .ok (.baload, 1) := by decide +kernel
theorem dJU_getChars_187 : decode cJU_getChars 187 = .ok (.invokestatic 111, 3) := by decide +kernel
theorem dJU_getChars_190 : decode cJU_getChars 190 = .ok (.iload 8, 2) := by decide +kernel
theorem dJU_getChars_192 : decode cJU_getChars 192 = .ok (.ifCond .eq 14, 3) := by decide +kernel
theorem dJU_getChars_195 : decode cJU_getChars 195 = .ok (.aload_n 3, 1) := by decide +kernel
theorem dJU_getChars_196 : decode cJU_getChars 196 = .ok (.iinc 7 (-1), 3) := by decide +kernel
theorem dJU_getChars_199 : decode cJU_getChars 199 = .ok (.iload 7, 2) := by decide +kernel
theorem dJU_getChars_201 : decode cJU_getChars 201 = .ok (.bipush 45, 2) := by decide +kernel
theorem dJU_getChars_203 : decode cJU_getChars 203 = .ok (.invokestatic 111, 3) := by decide +kernel
theorem dJU_getChars_206 : decode cJU_getChars 206 = .ok (.iload 7, 2) := by decide +kernel
theorem dJU_getChars_208 : decode cJU_getChars 208 = .ok (.ireturn, 1) := by decide +kernel
theorem dJU_putChar_0 : decode cJU_putChar 0 = .ok (.getstatic 44, 3) := by decide +kernel
theorem dJU_putChar_3 : decode cJU_putChar 3 = .ok (.ifCond .ne 25, 3) := by decide +kernel
theorem dJU_putChar_6 : decode cJU_putChar 6 = .ok (.iload_n 1, 1) := by decide +kernel
theorem dJU_putChar_7 : decode cJU_putChar 7 = .ok (.ifCond .lt 11, 3) := by decide +kernel
theorem dJU_putChar_10 : decode cJU_putChar 10 = .ok (.iload_n 1, 1) := by decide +kernel
theorem dJU_putChar_11 : decode cJU_putChar 11 = .ok (.aload_n 0, 1) := by decide +kernel
theorem dJU_putChar_12 : decode cJU_putChar 12 = .ok (.invokestatic 48, 3) := by decide +kernel
theorem dJU_putChar_15 : decode cJU_putChar 15 = .ok (.if_icmp .lt 13, 3) := by decide +kernel
theorem dJU_putChar_18 : decode cJU_putChar 18 = .ok (.new 52, 3) := by decide +kernel
theorem dJU_putChar_21 : decode cJU_putChar 21 = .ok (.dup, 1) := by decide +kernel
theorem dJU_putChar_22 : decode cJU_putChar 22 = .ok (.ldc 54, 2) := by decide +kernel
theorem dJU_putChar_24 : decode cJU_putChar 24 = .ok (.invokespecial 56, 3) := by decide +kernel
theorem dJU_putChar_27 : decode cJU_putChar 27 = .ok (.athrow, 1) := by decide +kernel
theorem dJU_putChar_28 : decode cJU_putChar 28 = .ok (.iload_n 1, 1) := by decide +kernel
theorem dJU_putChar_29 : decode cJU_putChar 29 = .ok (.iconst 1, 1) := by decide +kernel
theorem dJU_putChar_30 : decode cJU_putChar 30 = .ok (.ishl, 1) := by decide +kernel
theorem dJU_putChar_31 : decode cJU_putChar 31 = .ok (.istore_n 1, 1) := by decide +kernel
theorem dJU_putChar_32 : decode cJU_putChar 32 = .ok (.aload_n 0, 1) := by decide +kernel
theorem dJU_putChar_33 : decode cJU_putChar 33 = .ok (.iload_n 1, 1) := by decide +kernel
theorem dJU_putChar_34 : decode cJU_putChar 34 = .ok (.iinc 1 1, 3) := by decide +kernel
theorem dJU_putChar_37 : decode cJU_putChar 37 = .ok (.iload_n 2, 1) := by decide +kernel
theorem dJU_putChar_38 : decode cJU_putChar 38 = .ok (.getstatic 59, 3) := by decide +kernel
theorem dJU_putChar_41 : decode cJU_putChar 41 = .ok (.ishr, 1) := by decide +kernel
theorem dJU_putChar_42 : decode cJU_putChar 42 = .ok (.i2b, 1) := by decide +kernel
theorem dJU_putChar_43 : decode cJU_putChar 43 = .ok (.bastore, 1) := by decide +kernel
theorem dJU_putChar_44 : decode cJU_putChar 44 = .ok (.aload_n 0, 1) := by decide +kernel
theorem dJU_putChar_45 : decode cJU_putChar 45 = .ok (.iload_n 1, 1) := by decide +kernel
theorem dJU_putChar_46 : decode cJU_putChar 46 = .ok (.iload_n 2, 1) := by decide +kernel
theorem dJU_putChar_47 : decode cJU_putChar 47 = .ok (.getstatic 63, 3) := by decide +kernel
theorem dJU_putChar_50 : decode cJU_putChar 50 = .ok (.ishr, 1) := by decide +kernel
theorem dJU_putChar_51 : decode cJU_putChar 51 = .ok (.i2b, 1) := by decide +kernel
theorem dJU_putChar_52 : decode cJU_putChar 52 = .ok (.bastore, 1) := by decide +kernel
theorem dJU_putChar_53 : decode cJU_putChar 53 = .ok (.return_, 1) := by decide +kernel
theorem dM_give_0 : decode cM_give 0 = .ok (.aload_n 0, 1) := by decide +kernel
theorem dM_give_1 : decode cM_give 1 = .ok (.aload_n 0, 1) := by decide +kernel
theorem dM_give_2 : decode cM_give 2 = .ok (.getfield 133, 3) := by decide +kernel
theorem dM_give_5 : decode cM_give 5 = .ok (.putfield 43, 3) := by decide +kernel
theorem dM_give_8 : decode cM_give 8 = .ok (.iconst 0, 1) := by decide +kernel
theorem dM_give_9 : decode cM_give 9 = .ok (.istore_n 1, 1) := by decide +kernel
theorem dM_give_10 : decode cM_give 10 = .ok (.iload_n 1, 1) := by decide +kernel
theorem dM_give_11 : decode cM_give 11 = .ok (.aload_n 0, 1) := by decide +kernel
theorem dM_give_12 : decode cM_give 12 = .ok (.getfield 133, 3) := by decide +kernel
theorem dM_give_15 : decode cM_give 15 = .ok (.if_icmp .ge 21, 3) := by decide +kernel
theorem dM_give_18 : decode cM_give 18 = .ok (.aload_n 0, 1) := by decide +kernel
theorem dM_give_19 : decode cM_give 19 = .ok (.getfield 7, 3) := by decide +kernel
theorem dM_give_22 : decode cM_give 22 = .ok (.iload_n 1, 1) := by decide +kernel
theorem dM_give_23 : decode cM_give 23 = .ok (.aload_n 0, 1) := by decide +kernel
theorem dM_give_24 : decode cM_give 24 = .ok (.getfield 36, 3) := by decide +kernel
theorem dM_give_27 : decode cM_give 27 = .ok (.iload_n 1, 1) := by decide +kernel
theorem dM_give_28 : decode cM_give 28 = .ok (.baload, 1) := by decide +kernel
theorem dM_give_29 : decode cM_give 29 = .ok (.bastore, 1) := by decide +kernel
theorem dM_give_30 : decode cM_give 30 = .ok (.iinc 1 1, 3) := by decide +kernel
theorem dM_give_33 : decode cM_give 33 = .ok (.goto (-23), 3) := by decide +kernel
theorem dM_give_36 : decode cM_give 36 = .ok (.aload_n 0, 1) := by decide +kernel
theorem dM_give_37 : decode cM_give 37 = .ok (.getfield 43, 3) := by decide +kernel
theorem dM_give_40 : decode cM_give 40 = .ok (.ireturn, 1) := by decide +kernel
theorem dM_printFloat_0 : decode cM_printFloat 0 = .ok (.aload_n 0, 1) := by decide +kernel
theorem dM_printFloat_1 : decode cM_printFloat 1 = .ok (.iconst 0, 1) := by decide +kernel
theorem dM_printFloat_2 : decode cM_printFloat 2 = .ok (.putfield 39, 3) := by decide +kernel
theorem dM_printFloat_5 : decode cM_printFloat 5 = .ok (.aload_n 0, 1) := by decide +kernel
theorem dM_printFloat_6 : decode cM_printFloat 6 = .ok (.iconst 0, 1) := by decide +kernel
theorem dM_printFloat_7 : decode cM_printFloat 7 = .ok (.invokevirtual 191, 3) := by decide +kernel
theorem dM_printFloat_10 : decode cM_printFloat 10 = .ok (.aload_n 0, 1) := by decide +kernel
theorem dM_printFloat_11 : decode cM_printFloat 11 = .ok (.iconst 0, 1) := by decide +kernel
theorem dM_printFloat_12 : decode cM_printFloat 12 = .ok (.putfield 133, 3) := by decide +kernel
theorem dM_printFloat_15 : decode cM_printFloat 15 = .ok (.aload_n 0, 1) := by decide +kernel
theorem dM_printFloat_16 : decode cM_printFloat 16 = .ok (.iload_n 1, 1) := by decide +kernel
theorem dM_printFloat_17 : decode cM_printFloat 17 = .ok (.i2l, 1) := by decide +kernel
theorem dM_printFloat_18 : decode cM_printFloat 18 = .ok (.ldc2_w 163, 3) := by decide +kernel
theorem dM_printFloat_21 : decode cM_printFloat 21 = .ok (.land, 1) := by decide +kernel
theorem dM_printFloat_22 : decode cM_printFloat 22 = .ok (.invokevirtual 195, 3) := by decide +kernel
theorem dM_printFloat_25 : decode cM_printFloat 25 = .ok (.aload_n 0, 1) := by decide +kernel
theorem dM_printFloat_26 : decode cM_printFloat 26 = .ok (.invokevirtual 198, 3) := by decide +kernel
theorem dM_printFloat_29 : decode cM_printFloat 29 = .ok (.ireturn, 1) := by decide +kernel
theorem dL_law_0 : decode cL_law 0 = .ok (.new 8, 3) := by decide +kernel
theorem dL_law_3 : decode cL_law 3 = .ok (.dup, 1) := by decide +kernel
theorem dL_law_4 : decode cL_law 4 = .ok (.invokespecial 15, 3) := by decide +kernel
theorem dL_law_7 : decode cL_law 7 = .ok (.astore_n 1, 1) := by decide +kernel
theorem dL_law_8 : decode cL_law 8 = .ok (.new 16, 3) := by decide +kernel
theorem dL_law_11 : decode cL_law 11 = .ok (.dup, 1) := by decide +kernel
theorem dL_law_12 : decode cL_law 12 = .ok (.invokespecial 18, 3) := by decide +kernel
theorem dL_law_15 : decode cL_law 15 = .ok (.astore_n 2, 1) := by decide +kernel
theorem dL_law_16 : decode cL_law 16 = .ok (.iconst 1, 1) := by decide +kernel
theorem dL_law_17 : decode cL_law 17 = .ok (.newarray .long, 2) := by decide +kernel
theorem dL_law_19 : decode cL_law 19 = .ok (.astore_n 3, 1) := by decide +kernel
theorem dL_law_20 : decode cL_law 20 = .ok (.iconst 0, 1) := by decide +kernel
theorem dL_law_21 : decode cL_law 21 = .ok (.istore 4, 2) := by decide +kernel
theorem dL_law_23 : decode cL_law 23 = .ok (.iload 4, 2) := by decide +kernel
theorem dL_law_25 : decode cL_law 25 = .ok (.aload_n 0, 1) := by decide +kernel
theorem dL_law_26 : decode cL_law 26 = .ok (.arraylength, 1) := by decide +kernel
theorem dL_law_27 : decode cL_law 27 = .ok (.iconst 3, 1) := by decide +kernel
theorem dL_law_28 : decode cL_law 28 = .ok (.isub, 1) := by decide +kernel
theorem dL_law_29 : decode cL_law 29 = .ok (.if_icmp .gt 178, 3) := by decide +kernel
theorem dL_law_32 : decode cL_law 32 = .ok (.aload_n 0, 1) := by decide +kernel
theorem dL_law_33 : decode cL_law 33 = .ok (.iload 4, 2) := by decide +kernel
theorem dL_law_35 : decode cL_law 35 = .ok (.iaload, 1) := by decide +kernel
theorem dL_law_36 : decode cL_law 36 = .ok (.iconst 3, 1) := by decide +kernel
theorem dL_law_37 : decode cL_law 37 = .ok (.iand, 1) := by decide +kernel
theorem dL_law_38 : decode cL_law 38 = .ok (.tableswitch 163 0 2 #[26, 83, 108], 26) := by decide +kernel
theorem dL_law_64 : decode cL_law 64 = .ok (.aload_n 1, 1) := by decide +kernel
theorem dL_law_65 : decode cL_law 65 = .ok (.aload_n 0, 1) := by decide +kernel
theorem dL_law_66 : decode cL_law 66 = .ok (.iload 4, 2) := by decide +kernel
theorem dL_law_68 : decode cL_law 68 = .ok (.iconst 1, 1) := by decide +kernel
theorem dL_law_69 : decode cL_law 69 = .ok (.iadd, 1) := by decide +kernel
theorem dL_law_70 : decode cL_law 70 = .ok (.iaload, 1) := by decide +kernel
theorem dL_law_71 : decode cL_law 71 = .ok (.i2l, 1) := by decide +kernel
theorem dL_law_72 : decode cL_law 72 = .ok (.bipush 32, 2) := by decide +kernel
theorem dL_law_74 : decode cL_law 74 = .ok (.lshl, 1) := by decide +kernel
theorem dL_law_75 : decode cL_law 75 = .ok (.aload_n 0, 1) := by decide +kernel
theorem dL_law_76 : decode cL_law 76 = .ok (.iload 4, 2) := by decide +kernel
theorem dL_law_78 : decode cL_law 78 = .ok (.iconst 2, 1) := by decide +kernel
theorem dL_law_79 : decode cL_law 79 = .ok (.iadd, 1) := by decide +kernel
theorem dL_law_80 : decode cL_law 80 = .ok (.iaload, 1) := by decide +kernel
theorem dL_law_81 : decode cL_law 81 = .ok (.i2l, 1) := by decide +kernel
theorem dL_law_82 : decode cL_law 82 = .ok (.ldc2_w 19, 3) := by decide +kernel
theorem dL_law_85 : decode cL_law 85 = .ok (.land, 1) := by decide +kernel
theorem dL_law_86 : decode cL_law 86 = .ok (.lor, 1) := by decide +kernel
theorem dL_law_87 : decode cL_law 87 = .ok (.invokevirtual 21, 3) := by decide +kernel
theorem dL_law_90 : decode cL_law 90 = .ok (.aload_n 2, 1) := by decide +kernel
theorem dL_law_91 : decode cL_law 91 = .ok (.aload_n 0, 1) := by decide +kernel
theorem dL_law_92 : decode cL_law 92 = .ok (.iload 4, 2) := by decide +kernel
theorem dL_law_94 : decode cL_law 94 = .ok (.iconst 1, 1) := by decide +kernel
theorem dL_law_95 : decode cL_law 95 = .ok (.iadd, 1) := by decide +kernel
theorem dL_law_96 : decode cL_law 96 = .ok (.iaload, 1) := by decide +kernel
theorem dL_law_97 : decode cL_law 97 = .ok (.i2l, 1) := by decide +kernel
theorem dL_law_98 : decode cL_law 98 = .ok (.bipush 32, 2) := by decide +kernel
theorem dL_law_100 : decode cL_law 100 = .ok (.lshl, 1) := by decide +kernel
theorem dL_law_101 : decode cL_law 101 = .ok (.aload_n 0, 1) := by decide +kernel
theorem dL_law_102 : decode cL_law 102 = .ok (.iload 4, 2) := by decide +kernel
theorem dL_law_104 : decode cL_law 104 = .ok (.iconst 2, 1) := by decide +kernel
theorem dL_law_105 : decode cL_law 105 = .ok (.iadd, 1) := by decide +kernel
theorem dL_law_106 : decode cL_law 106 = .ok (.iaload, 1) := by decide +kernel
theorem dL_law_107 : decode cL_law 107 = .ok (.i2l, 1) := by decide +kernel
theorem dL_law_108 : decode cL_law 108 = .ok (.ldc2_w 19, 3) := by decide +kernel
theorem dL_law_111 : decode cL_law 111 = .ok (.land, 1) := by decide +kernel
theorem dL_law_112 : decode cL_law 112 = .ok (.lor, 1) := by decide +kernel
theorem dL_law_113 : decode cL_law 113 = .ok (.invokevirtual 25, 3) := by decide +kernel
theorem dL_law_116 : decode cL_law 116 = .ok (.if_icmp .eq 85, 3) := by decide +kernel
theorem dL_law_119 : decode cL_law 119 = .ok (.iconst 0, 1) := by decide +kernel
theorem dL_law_120 : decode cL_law 120 = .ok (.ireturn, 1) := by decide +kernel
theorem dL_law_121 : decode cL_law 121 = .ok (.aload_n 1, 1) := by decide +kernel
theorem dL_law_122 : decode cL_law 122 = .ok (.aload_n 0, 1) := by decide +kernel
theorem dL_law_123 : decode cL_law 123 = .ok (.iload 4, 2) := by decide +kernel
theorem dL_law_125 : decode cL_law 125 = .ok (.iconst 1, 1) := by decide +kernel
theorem dL_law_126 : decode cL_law 126 = .ok (.iadd, 1) := by decide +kernel
theorem dL_law_127 : decode cL_law 127 = .ok (.iaload, 1) := by decide +kernel
theorem dL_law_128 : decode cL_law 128 = .ok (.invokevirtual 26, 3) := by decide +kernel
theorem dL_law_131 : decode cL_law 131 = .ok (.aload_n 2, 1) := by decide +kernel
theorem dL_law_132 : decode cL_law 132 = .ok (.aload_n 0, 1) := by decide +kernel
theorem dL_law_133 : decode cL_law 133 = .ok (.iload 4, 2) := by decide +kernel
theorem dL_law_135 : decode cL_law 135 = .ok (.iconst 1, 1) := by decide +kernel
theorem dL_law_136 : decode cL_law 136 = .ok (.iadd, 1) := by decide +kernel
theorem dL_law_137 : decode cL_law 137 = .ok (.iaload, 1) := by decide +kernel
theorem dL_law_138 : decode cL_law 138 = .ok (.invokevirtual 30, 3) := by decide +kernel
theorem dL_law_141 : decode cL_law 141 = .ok (.if_icmp .eq 60, 3) := by decide +kernel
theorem dL_law_144 : decode cL_law 144 = .ok (.iconst 0, 1) := by decide +kernel
theorem dL_law_145 : decode cL_law 145 = .ok (.ireturn, 1) := by decide +kernel
theorem dL_law_146 : decode cL_law 146 = .ok (.aload_n 1, 1) := by decide +kernel
theorem dL_law_147 : decode cL_law 147 = .ok (.aload_n 0, 1) := by decide +kernel
theorem dL_law_148 : decode cL_law 148 = .ok (.iload 4, 2) := by decide +kernel
theorem dL_law_150 : decode cL_law 150 = .ok (.iconst 1, 1) := by decide +kernel
theorem dL_law_151 : decode cL_law 151 = .ok (.iadd, 1) := by decide +kernel
theorem dL_law_152 : decode cL_law 152 = .ok (.iaload, 1) := by decide +kernel
theorem dL_law_153 : decode cL_law 153 = .ok (.aload_n 3, 1) := by decide +kernel
theorem dL_law_154 : decode cL_law 154 = .ok (.invokestatic 31, 3) := by decide +kernel
theorem dL_law_157 : decode cL_law 157 = .ok (.istore 5, 2) := by decide +kernel
theorem dL_law_159 : decode cL_law 159 = .ok (.aload_n 2, 1) := by decide +kernel
theorem dL_law_160 : decode cL_law 160 = .ok (.aload_n 0, 1) := by decide +kernel
theorem dL_law_161 : decode cL_law 161 = .ok (.iload 4, 2) := by decide +kernel
theorem dL_law_163 : decode cL_law 163 = .ok (.iconst 1, 1) := by decide +kernel
theorem dL_law_164 : decode cL_law 164 = .ok (.iadd, 1) := by decide +kernel
theorem dL_law_165 : decode cL_law 165 = .ok (.iaload, 1) := by decide +kernel
theorem dL_law_166 : decode cL_law 166 = .ok (.invokevirtual 36, 3) := by decide +kernel
theorem dL_law_169 : decode cL_law 169 = .ok (.lstore 6, 2) := by decide +kernel
theorem dL_law_171 : decode cL_law 171 = .ok (.aload_n 2, 1) := by decide +kernel
theorem dL_law_172 : decode cL_law 172 = .ok (.invokevirtual 37, 3) := by decide +kernel
theorem dL_law_175 : decode cL_law 175 = .ok (.iload 5, 2) := by decide +kernel
theorem dL_law_177 : decode cL_law 177 = .ok (.if_icmp .eq 5, 3) := by decide +kernel
theorem dL_law_180 : decode cL_law 180 = .ok (.iconst 0, 1) := by decide +kernel
theorem dL_law_181 : decode cL_law 181 = .ok (.ireturn, 1) := by decide +kernel
theorem dL_law_182 : decode cL_law 182 = .ok (.iload 5, 2) := by decide +kernel
theorem dL_law_184 : decode cL_law 184 = .ok (.ifCond .ne 14, 3) := by decide +kernel
theorem dL_law_187 : decode cL_law 187 = .ok (.aload_n 3, 1) := by decide +kernel
theorem dL_law_188 : decode cL_law 188 = .ok (.iconst 0, 1) := by decide +kernel
theorem dL_law_189 : decode cL_law 189 = .ok (.laload, 1) := by decide +kernel
theorem dL_law_190 : decode cL_law 190 = .ok (.lload 6, 2) := by decide +kernel
theorem dL_law_192 : decode cL_law 192 = .ok (.lcmp, 1) := by decide +kernel
theorem dL_law_193 : decode cL_law 193 = .ok (.ifCond .eq 5, 3) := by decide +kernel
theorem dL_law_196 : decode cL_law 196 = .ok (.iconst 0, 1) := by decide +kernel
theorem dL_law_197 : decode cL_law 197 = .ok (.ireturn, 1) := by decide +kernel
theorem dL_law_198 : decode cL_law 198 = .ok (.goto 3, 3) := by decide +kernel
theorem dL_law_201 : decode cL_law 201 = .ok (.iinc 4 3, 3) := by decide +kernel
theorem dL_law_204 : decode cL_law 204 = .ok (.goto (-181), 3) := by decide +kernel
theorem dL_law_207 : decode cL_law 207 = .ok (.iconst 1, 1) := by decide +kernel
theorem dL_law_208 : decode cL_law 208 = .ok (.ireturn, 1) := by decide +kernel
