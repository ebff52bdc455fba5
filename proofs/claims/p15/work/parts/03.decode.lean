theorem d_Top_init_0 : decode b_Top_init 0 = .ok (.aload_n 0, 1) := by decide +kernel
theorem d_Top_init_1 : decode b_Top_init 1 = .ok (.invokespecial 1, 3) := by decide +kernel
theorem d_Top_init_4 : decode b_Top_init 4 = .ok (.aload_n 0, 1) := by decide +kernel
theorem d_Top_init_5 : decode b_Top_init 5 = .ok (.iload_n 3, 1) := by decide +kernel
theorem d_Top_init_6 : decode b_Top_init 6 = .ok (.iconst 0, 1) := by decide +kernel
theorem d_Top_init_7 : decode b_Top_init 7 = .ok (.iconst 1, 1) := by decide +kernel
theorem d_Top_init_8 : decode b_Top_init 8 = .ok (.invokestatic 9, 3) := by decide +kernel
theorem d_Top_init_11 : decode b_Top_init 11 = .ok (.putfield 13, 3) := by decide +kernel
theorem d_Top_init_14 : decode b_Top_init 14 = .ok (.aload_n 0, 1) := by decide +kernel
theorem d_Top_init_15 : decode b_Top_init 15 = .ok (.new 17, 3) := by decide +kernel
theorem d_Top_init_18 : decode b_Top_init 18 = .ok (.dup, 1) := by decide +kernel
theorem d_Top_init_19 : decode b_Top_init 19 = .ok (.invokespecial 19, 3) := by decide +kernel
theorem d_Top_init_22 : decode b_Top_init 22 = .ok (.putfield 20, 3) := by decide +kernel
theorem d_Top_init_25 : decode b_Top_init 25 = .ok (.aload_n 0, 1) := by decide +kernel
theorem d_Top_init_26 : decode b_Top_init 26 = .ok (.new 24, 3) := by decide +kernel
theorem d_Top_init_29 : decode b_Top_init 29 = .ok (.dup, 1) := by decide +kernel
theorem d_Top_init_30 : decode b_Top_init 30 = .ok (.iload_n 1, 1) := by decide +kernel
theorem d_Top_init_31 : decode b_Top_init 31 = .ok (.iconst 1, 1) := by decide +kernel
theorem d_Top_init_32 : decode b_Top_init 32 = .ok (.bipush 24, 2) := by decide +kernel
theorem d_Top_init_34 : decode b_Top_init 34 = .ok (.invokestatic 9, 3) := by decide +kernel
theorem d_Top_init_37 : decode b_Top_init 37 = .ok (.iload_n 2, 1) := by decide +kernel
theorem d_Top_init_38 : decode b_Top_init 38 = .ok (.iconst 1, 1) := by decide +kernel
theorem d_Top_init_39 : decode b_Top_init 39 = .ok (.bipush 24, 2) := by decide +kernel
theorem d_Top_init_41 : decode b_Top_init 41 = .ok (.invokestatic 9, 3) := by decide +kernel
theorem d_Top_init_44 : decode b_Top_init 44 = .ok (.invokespecial 26, 3) := by decide +kernel
theorem d_Top_init_47 : decode b_Top_init 47 = .ok (.putfield 29, 3) := by decide +kernel
theorem d_Top_init_50 : decode b_Top_init 50 = .ok (.aload_n 0, 1) := by decide +kernel
theorem d_Top_init_51 : decode b_Top_init 51 = .ok (.new 33, 3) := by decide +kernel
theorem d_Top_init_54 : decode b_Top_init 54 = .ok (.dup, 1) := by decide +kernel
theorem d_Top_init_55 : decode b_Top_init 55 = .ok (.invokespecial 35, 3) := by decide +kernel
theorem d_Top_init_58 : decode b_Top_init 58 = .ok (.putfield 36, 3) := by decide +kernel
theorem d_Top_init_61 : decode b_Top_init 61 = .ok (.aload_n 0, 1) := by decide +kernel
theorem d_Top_init_62 : decode b_Top_init 62 = .ok (.new 33, 3) := by decide +kernel
theorem d_Top_init_65 : decode b_Top_init 65 = .ok (.dup, 1) := by decide +kernel
theorem d_Top_init_66 : decode b_Top_init 66 = .ok (.invokespecial 35, 3) := by decide +kernel
theorem d_Top_init_69 : decode b_Top_init 69 = .ok (.putfield 40, 3) := by decide +kernel
theorem d_Top_init_72 : decode b_Top_init 72 = .ok (.aload_n 0, 1) := by decide +kernel
theorem d_Top_init_73 : decode b_Top_init 73 = .ok (.getfield 13, 3) := by decide +kernel
theorem d_Top_init_76 : decode b_Top_init 76 = .ok (.ifCond .ne 17, 3) := by decide +kernel
theorem d_Top_init_79 : decode b_Top_init 79 = .ok (.new 43, 3) := by decide +kernel
theorem d_Top_init_82 : decode b_Top_init 82 = .ok (.dup, 1) := by decide +kernel
theorem d_Top_init_83 : decode b_Top_init 83 = .ok (.aload_n 0, 1) := by decide +kernel
theorem d_Top_init_84 : decode b_Top_init 84 = .ok (.getfield 20, 3) := by decide +kernel
theorem d_Top_init_87 : decode b_Top_init 87 = .ok (.invokespecial 45, 3) := by decide +kernel
theorem d_Top_init_90 : decode b_Top_init 90 = .ok (.goto 14, 3) := by decide +kernel
theorem d_Top_init_93 : decode b_Top_init 93 = .ok (.new 48, 3) := by decide +kernel
theorem d_Top_init_96 : decode b_Top_init 96 = .ok (.dup, 1) := by decide +kernel
theorem d_Top_init_97 : decode b_Top_init 97 = .ok (.aload_n 0, 1) := by decide +kernel
theorem d_Top_init_98 : decode b_Top_init 98 = .ok (.getfield 20, 3) := by decide +kernel
theorem d_Top_init_101 : decode b_Top_init 101 = .ok (.invokespecial 50, 3) := by decide +kernel
theorem d_Top_init_104 : decode b_Top_init 104 = .ok (.astore 4, 2) := by decide +kernel
theorem d_Top_init_106 : decode b_Top_init 106 = .ok (.aload_n 0, 1) := by decide +kernel
theorem d_Top_init_107 : decode b_Top_init 107 = .ok (.new 51, 3) := by decide +kernel
theorem d_Top_init_110 : decode b_Top_init 110 = .ok (.dup, 1) := by decide +kernel
theorem d_Top_init_111 : decode b_Top_init 111 = .ok (.aload 4, 2) := by decide +kernel
theorem d_Top_init_113 : decode b_Top_init 113 = .ok (.new 53, 3) := by decide +kernel
theorem d_Top_init_116 : decode b_Top_init 116 = .ok (.dup, 1) := by decide +kernel
theorem d_Top_init_117 : decode b_Top_init 117 = .ok (.aload_n 0, 1) := by decide +kernel
theorem d_Top_init_118 : decode b_Top_init 118 = .ok (.getfield 36, 3) := by decide +kernel
theorem d_Top_init_121 : decode b_Top_init 121 = .ok (.invokespecial 55, 3) := by decide +kernel
theorem d_Top_init_124 : decode b_Top_init 124 = .ok (.invokespecial 58, 3) := by decide +kernel
theorem d_Top_init_127 : decode b_Top_init 127 = .ok (.putfield 61, 3) := by decide +kernel
theorem d_Top_init_130 : decode b_Top_init 130 = .ok (.aload_n 0, 1) := by decide +kernel
theorem d_Top_init_131 : decode b_Top_init 131 = .ok (.new 65, 3) := by decide +kernel
theorem d_Top_init_134 : decode b_Top_init 134 = .ok (.dup, 1) := by decide +kernel
theorem d_Top_init_135 : decode b_Top_init 135 = .ok (.aload 4, 2) := by decide +kernel
theorem d_Top_init_137 : decode b_Top_init 137 = .ok (.new 67, 3) := by decide +kernel
theorem d_Top_init_140 : decode b_Top_init 140 = .ok (.dup, 1) := by decide +kernel
theorem d_Top_init_141 : decode b_Top_init 141 = .ok (.aload_n 0, 1) := by decide +kernel
theorem d_Top_init_142 : decode b_Top_init 142 = .ok (.getfield 40, 3) := by decide +kernel
theorem d_Top_init_145 : decode b_Top_init 145 = .ok (.invokespecial 69, 3) := by decide +kernel
theorem d_Top_init_148 : decode b_Top_init 148 = .ok (.invokespecial 70, 3) := by decide +kernel
theorem d_Top_init_151 : decode b_Top_init 151 = .ok (.putfield 73, 3) := by decide +kernel
theorem d_Top_init_154 : decode b_Top_init 154 = .ok (.aload_n 0, 1) := by decide +kernel
theorem d_Top_init_155 : decode b_Top_init 155 = .ok (.new 77, 3) := by decide +kernel
theorem d_Top_init_158 : decode b_Top_init 158 = .ok (.dup, 1) := by decide +kernel
theorem d_Top_init_159 : decode b_Top_init 159 = .ok (.aload_n 0, 1) := by decide +kernel
theorem d_Top_init_160 : decode b_Top_init 160 = .ok (.getfield 20, 3) := by decide +kernel
theorem d_Top_init_163 : decode b_Top_init 163 = .ok (.invokespecial 79, 3) := by decide +kernel
theorem d_Top_init_166 : decode b_Top_init 166 = .ok (.putfield 80, 3) := by decide +kernel
theorem d_Top_init_169 : decode b_Top_init 169 = .ok (.aload_n 0, 1) := by decide +kernel
theorem d_Top_init_170 : decode b_Top_init 170 = .ok (.new 77, 3) := by decide +kernel
theorem d_Top_init_173 : decode b_Top_init 173 = .ok (.dup, 1) := by decide +kernel
theorem d_Top_init_174 : decode b_Top_init 174 = .ok (.aload_n 0, 1) := by decide +kernel
theorem d_Top_init_175 : decode b_Top_init 175 = .ok (.getfield 20, 3) := by decide +kernel
theorem d_Top_init_178 : decode b_Top_init 178 = .ok (.invokespecial 79, 3) := by decide +kernel
theorem d_Top_init_181 : decode b_Top_init 181 = .ok (.putfield 84, 3) := by decide +kernel
theorem d_Top_init_184 : decode b_Top_init 184 = .ok (.aload_n 0, 1) := by decide +kernel
theorem d_Top_init_185 : decode b_Top_init 185 = .ok (.iconst (-1), 1) := by decide +kernel
theorem d_Top_init_186 : decode b_Top_init 186 = .ok (.putfield 87, 3) := by decide +kernel
theorem d_Top_init_189 : decode b_Top_init 189 = .ok (.return_, 1) := by decide +kernel
theorem d_Top_symbol_0 : decode b_Top_symbol 0 = .ok (.iload_n 1, 1) := by decide +kernel
theorem d_Top_symbol_1 : decode b_Top_symbol 1 = .ok (.iconst 1, 1) := by decide +kernel
theorem d_Top_symbol_2 : decode b_Top_symbol 2 = .ok (.bipush 8, 2) := by decide +kernel
theorem d_Top_symbol_4 : decode b_Top_symbol 4 = .ok (.invokestatic 90, 3) := by decide +kernel
theorem d_Top_symbol_7 : decode b_Top_symbol 7 = .ok (.ifCond .eq 13, 3) := by decide +kernel
theorem d_Top_symbol_10 : decode b_Top_symbol 10 = .ok (.iload_n 2, 1) := by decide +kernel
theorem d_Top_symbol_11 : decode b_Top_symbol 11 = .ok (.iconst 1, 1) := by decide +kernel
theorem d_Top_symbol_12 : decode b_Top_symbol 12 = .ok (.bipush 8, 2) := by decide +kernel
theorem d_Top_symbol_14 : decode b_Top_symbol 14 = .ok (.invokestatic 90, 3) := by decide +kernel
theorem d_Top_symbol_17 : decode b_Top_symbol 17 = .ok (.ifCond .ne 13, 3) := by decide +kernel
theorem d_Top_symbol_20 : decode b_Top_symbol 20 = .ok (.new 94, 3) := by decide +kernel
theorem d_Top_symbol_23 : decode b_Top_symbol 23 = .ok (.dup, 1) := by decide +kernel
theorem d_Top_symbol_24 : decode b_Top_symbol 24 = .ok (.ldc 96, 2) := by decide +kernel
theorem d_Top_symbol_26 : decode b_Top_symbol 26 = .ok (.invokespecial 98, 3) := by decide +kernel
theorem d_Top_symbol_29 : decode b_Top_symbol 29 = .ok (.athrow, 1) := by decide +kernel
theorem d_Top_symbol_30 : decode b_Top_symbol 30 = .ok (.aload_n 0, 1) := by decide +kernel
theorem d_Top_symbol_31 : decode b_Top_symbol 31 = .ok (.getfield 20, 3) := by decide +kernel
theorem d_Top_symbol_34 : decode b_Top_symbol 34 = .ok (.getfield 101, 3) := by decide +kernel
theorem d_Top_symbol_37 : decode b_Top_symbol 37 = .ok (.bipush 16, 2) := by decide +kernel
theorem d_Top_symbol_39 : decode b_Top_symbol 39 = .ok (.if_icmp .lt 13, 3) := by decide +kernel
theorem d_Top_symbol_42 : decode b_Top_symbol 42 = .ok (.new 104, 3) := by decide +kernel
theorem d_Top_symbol_45 : decode b_Top_symbol 45 = .ok (.dup, 1) := by decide +kernel
theorem d_Top_symbol_46 : decode b_Top_symbol 46 = .ok (.ldc 106, 2) := by decide +kernel
theorem d_Top_symbol_48 : decode b_Top_symbol 48 = .ok (.invokespecial 108, 3) := by decide +kernel
theorem d_Top_symbol_51 : decode b_Top_symbol 51 = .ok (.athrow, 1) := by decide +kernel
theorem d_Top_symbol_52 : decode b_Top_symbol 52 = .ok (.aload_n 0, 1) := by decide +kernel
theorem d_Top_symbol_53 : decode b_Top_symbol 53 = .ok (.getfield 20, 3) := by decide +kernel
theorem d_Top_symbol_56 : decode b_Top_symbol 56 = .ok (.iload_n 1, 1) := by decide +kernel
theorem d_Top_symbol_57 : decode b_Top_symbol 57 = .ok (.iload_n 2, 1) := by decide +kernel
theorem d_Top_symbol_58 : decode b_Top_symbol 58 = .ok (.invokevirtual 109, 3) := by decide +kernel
theorem d_Top_symbol_61 : decode b_Top_symbol 61 = .ok (.ireturn, 1) := by decide +kernel
theorem d_Top_put_0 : decode b_Top_put 0 = .ok (.aload_n 0, 1) := by decide +kernel
theorem d_Top_put_1 : decode b_Top_put 1 = .ok (.getfield 20, 3) := by decide +kernel
theorem d_Top_put_4 : decode b_Top_put 4 = .ok (.iload_n 1, 1) := by decide +kernel
theorem d_Top_put_5 : decode b_Top_put 5 = .ok (.invokevirtual 113, 3) := by decide +kernel
theorem d_Top_put_8 : decode b_Top_put 8 = .ok (.ifCond .eq 16, 3) := by decide +kernel
theorem d_Top_put_11 : decode b_Top_put 11 = .ok (.aload_n 0, 1) := by decide +kernel
theorem d_Top_put_12 : decode b_Top_put 12 = .ok (.getfield 20, 3) := by decide +kernel
theorem d_Top_put_15 : decode b_Top_put 15 = .ok (.iload_n 1, 1) := by decide +kernel
theorem d_Top_put_16 : decode b_Top_put 16 = .ok (.iload_n 2, 1) := by decide +kernel
theorem d_Top_put_17 : decode b_Top_put 17 = .ok (.iload_n 3, 1) := by decide +kernel
theorem d_Top_put_18 : decode b_Top_put 18 = .ok (.invokevirtual 117, 3) := by decide +kernel
theorem d_Top_put_21 : decode b_Top_put 21 = .ok (.ifCond .ne 13, 3) := by decide +kernel
theorem d_Top_put_24 : decode b_Top_put 24 = .ok (.new 120, 3) := by decide +kernel
theorem d_Top_put_27 : decode b_Top_put 27 = .ok (.dup, 1) := by decide +kernel
theorem d_Top_put_28 : decode b_Top_put 28 = .ok (.ldc 122, 2) := by decide +kernel
theorem d_Top_put_30 : decode b_Top_put 30 = .ok (.invokespecial 124, 3) := by decide +kernel
theorem d_Top_put_33 : decode b_Top_put 33 = .ok (.athrow, 1) := by decide +kernel
theorem d_Top_put_34 : decode b_Top_put 34 = .ok (.aload_n 0, 1) := by decide +kernel
theorem d_Top_put_35 : decode b_Top_put 35 = .ok (.getfield 20, 3) := by decide +kernel
theorem d_Top_put_38 : decode b_Top_put 38 = .ok (.getfield 125, 3) := by decide +kernel
theorem d_Top_put_41 : decode b_Top_put 41 = .ok (.iload_n 1, 1) := by decide +kernel
theorem d_Top_put_42 : decode b_Top_put 42 = .ok (.laload, 1) := by decide +kernel
theorem d_Top_put_43 : decode b_Top_put 43 = .ok (.lstore 5, 2) := by decide +kernel
theorem d_Top_put_45 : decode b_Top_put 45 = .ok (.aload_n 0, 1) := by decide +kernel
theorem d_Top_put_46 : decode b_Top_put 46 = .ok (.getfield 20, 3) := by decide +kernel
theorem d_Top_put_49 : decode b_Top_put 49 = .ok (.getfield 125, 3) := by decide +kernel
theorem d_Top_put_52 : decode b_Top_put 52 = .ok (.iload_n 1, 1) := by decide +kernel
theorem d_Top_put_53 : decode b_Top_put 53 = .ok (.lload 5, 2) := by decide +kernel
theorem d_Top_put_55 : decode b_Top_put 55 = .ok (.aload_n 0, 1) := by decide +kernel
theorem d_Top_put_56 : decode b_Top_put 56 = .ok (.getfield 20, 3) := by decide +kernel
theorem d_Top_put_59 : decode b_Top_put 59 = .ok (.iload_n 1, 1) := by decide +kernel
theorem d_Top_put_60 : decode b_Top_put 60 = .ok (.iload_n 2, 1) := by decide +kernel
theorem d_Top_put_61 : decode b_Top_put 61 = .ok (.iload_n 3, 1) := by decide +kernel
theorem d_Top_put_62 : decode b_Top_put 62 = .ok (.invokevirtual 129, 3) := by decide +kernel
theorem d_Top_put_65 : decode b_Top_put 65 = .ok (.iload 4, 2) := by decide +kernel
theorem d_Top_put_67 : decode b_Top_put 67 = .ok (.invokestatic 132, 3) := by decide +kernel
theorem d_Top_put_70 : decode b_Top_put 70 = .ok (.lastore, 1) := by decide +kernel
theorem d_Top_put_71 : decode b_Top_put 71 = .ok (.aload_n 0, 1) := by decide +kernel
theorem d_Top_put_72 : decode b_Top_put 72 = .ok (.getfield 20, 3) := by decide +kernel
theorem d_Top_put_75 : decode b_Top_put 75 = .ok (.getfield 125, 3) := by decide +kernel
theorem d_Top_put_78 : decode b_Top_put 78 = .ok (.iload_n 1, 1) := by decide +kernel
theorem d_Top_put_79 : decode b_Top_put 79 = .ok (.laload, 1) := by decide +kernel
theorem d_Top_put_80 : decode b_Top_put 80 = .ok (.lload 5, 2) := by decide +kernel
theorem d_Top_put_82 : decode b_Top_put 82 = .ok (.lcmp, 1) := by decide +kernel
theorem d_Top_put_83 : decode b_Top_put 83 = .ok (.ifCond .eq 7, 3) := by decide +kernel
theorem d_Top_put_86 : decode b_Top_put 86 = .ok (.iconst 1, 1) := by decide +kernel
theorem d_Top_put_87 : decode b_Top_put 87 = .ok (.goto 4, 3) := by decide +kernel
theorem d_Top_put_90 : decode b_Top_put 90 = .ok (.iconst 0, 1) := by decide +kernel
theorem d_Top_put_91 : decode b_Top_put 91 = .ok (.ireturn, 1) := by decide +kernel
theorem d_Top_instance_0 : decode b_Top_instance 0 = .ok (.aload_n 0, 1) := by decide +kernel
theorem d_Top_instance_1 : decode b_Top_instance 1 = .ok (.getfield 20, 3) := by decide +kernel
theorem d_Top_instance_4 : decode b_Top_instance 4 = .ok (.iload_n 1, 1) := by decide +kernel
theorem d_Top_instance_5 : decode b_Top_instance 5 = .ok (.invokevirtual 113, 3) := by decide +kernel
theorem d_Top_instance_8 : decode b_Top_instance 8 = .ok (.ifCond .ne 13, 3) := by decide +kernel
theorem d_Top_instance_11 : decode b_Top_instance 11 = .ok (.new 120, 3) := by decide +kernel
theorem d_Top_instance_14 : decode b_Top_instance 14 = .ok (.dup, 1) := by decide +kernel
theorem d_Top_instance_15 : decode b_Top_instance 15 = .ok (.ldc 136, 2) := by decide +kernel
theorem d_Top_instance_17 : decode b_Top_instance 17 = .ok (.invokespecial 124, 3) := by decide +kernel
theorem d_Top_instance_20 : decode b_Top_instance 20 = .ok (.athrow, 1) := by decide +kernel
theorem d_Top_instance_21 : decode b_Top_instance 21 = .ok (.iload_n 2, 1) := by decide +kernel
theorem d_Top_instance_22 : decode b_Top_instance 22 = .ok (.invokestatic 138, 3) := by decide +kernel
theorem d_Top_instance_25 : decode b_Top_instance 25 = .ok (.ifCond .eq 10, 3) := by decide +kernel
theorem d_Top_instance_28 : decode b_Top_instance 28 = .ok (.iload_n 3, 1) := by decide +kernel
theorem d_Top_instance_29 : decode b_Top_instance 29 = .ok (.invokestatic 138, 3) := by decide +kernel
theorem d_Top_instance_32 : decode b_Top_instance 32 = .ok (.ifCond .ne 13, 3) := by decide +kernel
theorem d_Top_instance_35 : decode b_Top_instance 35 = .ok (.new 94, 3) := by decide +kernel
theorem d_Top_instance_38 : decode b_Top_instance 38 = .ok (.dup, 1) := by decide +kernel
theorem d_Top_instance_39 : decode b_Top_instance 39 = .ok (.ldc 141, 2) := by decide +kernel
theorem d_Top_instance_41 : decode b_Top_instance 41 = .ok (.invokespecial 98, 3) := by decide +kernel
theorem d_Top_instance_44 : decode b_Top_instance 44 = .ok (.athrow, 1) := by decide +kernel
theorem d_Top_instance_45 : decode b_Top_instance 45 = .ok (.aload_n 0, 1) := by decide +kernel
theorem d_Top_instance_46 : decode b_Top_instance 46 = .ok (.getfield 80, 3) := by decide +kernel
theorem d_Top_instance_49 : decode b_Top_instance 49 = .ok (.getfield 143, 3) := by decide +kernel
theorem d_Top_instance_52 : decode b_Top_instance 52 = .ok (.bipush 40, 2) := by decide +kernel
theorem d_Top_instance_54 : decode b_Top_instance 54 = .ok (.if_icmp .lt 13, 3) := by decide +kernel
theorem d_Top_instance_57 : decode b_Top_instance 57 = .ok (.new 104, 3) := by decide +kernel
theorem d_Top_instance_60 : decode b_Top_instance 60 = .ok (.dup, 1) := by decide +kernel
theorem d_Top_instance_61 : decode b_Top_instance 61 = .ok (.ldc 144, 2) := by decide +kernel
theorem d_Top_instance_63 : decode b_Top_instance 63 = .ok (.invokespecial 108, 3) := by decide +kernel
theorem d_Top_instance_66 : decode b_Top_instance 66 = .ok (.athrow, 1) := by decide +kernel
theorem d_Top_instance_67 : decode b_Top_instance 67 = .ok (.aload_n 0, 1) := by decide +kernel
theorem d_Top_instance_68 : decode b_Top_instance 68 = .ok (.getfield 80, 3) := by decide +kernel
theorem d_Top_instance_71 : decode b_Top_instance 71 = .ok (.iload_n 1, 1) := by decide +kernel
theorem d_Top_instance_72 : decode b_Top_instance 72 = .ok (.iload_n 2, 1) := by decide +kernel
theorem d_Top_instance_73 : decode b_Top_instance 73 = .ok (.iload_n 3, 1) := by decide +kernel
theorem d_Top_instance_74 : decode b_Top_instance 74 = .ok (.invokevirtual 146, 3) := by decide +kernel
theorem d_Top_instance_77 : decode b_Top_instance 77 = .ok (.ireturn, 1) := by decide +kernel
theorem d_Top_refine_0 : decode b_Top_refine 0 = .ok (.aload_n 0, 1) := by decide +kernel
theorem d_Top_refine_1 : decode b_Top_refine 1 = .ok (.getfield 80, 3) := by decide +kernel
theorem d_Top_refine_4 : decode b_Top_refine 4 = .ok (.iload_n 1, 1) := by decide +kernel
theorem d_Top_refine_5 : decode b_Top_refine 5 = .ok (.invokevirtual 148, 3) := by decide +kernel
theorem d_Top_refine_8 : decode b_Top_refine 8 = .ok (.ifCond .eq 24, 3) := by decide +kernel
theorem d_Top_refine_11 : decode b_Top_refine 11 = .ok (.aload_n 0, 1) := by decide +kernel
theorem d_Top_refine_12 : decode b_Top_refine 12 = .ok (.getfield 20, 3) := by decide +kernel
theorem d_Top_refine_15 : decode b_Top_refine 15 = .ok (.aload_n 0, 1) := by decide +kernel
theorem d_Top_refine_16 : decode b_Top_refine 16 = .ok (.getfield 80, 3) := by decide +kernel
theorem d_Top_refine_19 : decode b_Top_refine 19 = .ok (.getfield 149, 3) := by decide +kernel
theorem d_Top_refine_22 : decode b_Top_refine 22 = .ok (.iload_n 1, 1) := by decide +kernel
theorem d_Top_refine_23 : decode b_Top_refine 23 = .ok (.iaload, 1) := by decide +kernel
theorem d_Top_refine_24 : decode b_Top_refine 24 = .ok (.iload_n 2, 1) := by decide +kernel
theorem d_Top_refine_25 : decode b_Top_refine 25 = .ok (.iload_n 3, 1) := by decide +kernel
theorem d_Top_refine_26 : decode b_Top_refine 26 = .ok (.invokevirtual 117, 3) := by decide +kernel
theorem d_Top_refine_29 : decode b_Top_refine 29 = .ok (.ifCond .ne 13, 3) := by decide +kernel
theorem d_Top_refine_32 : decode b_Top_refine 32 = .ok (.new 120, 3) := by decide +kernel
theorem d_Top_refine_35 : decode b_Top_refine 35 = .ok (.dup, 1) := by decide +kernel
theorem d_Top_refine_36 : decode b_Top_refine 36 = .ok (.ldc 153, 2) := by decide +kernel
theorem d_Top_refine_38 : decode b_Top_refine 38 = .ok (.invokespecial 124, 3) := by decide +kernel
theorem d_Top_refine_41 : decode b_Top_refine 41 = .ok (.athrow, 1) := by decide +kernel
theorem d_Top_refine_42 : decode b_Top_refine 42 = .ok (.aload_n 0, 1) := by decide +kernel
theorem d_Top_refine_43 : decode b_Top_refine 43 = .ok (.getfield 80, 3) := by decide +kernel
theorem d_Top_refine_46 : decode b_Top_refine 46 = .ok (.getfield 155, 3) := by decide +kernel
theorem d_Top_refine_49 : decode b_Top_refine 49 = .ok (.iload_n 1, 1) := by decide +kernel
theorem d_Top_refine_50 : decode b_Top_refine 50 = .ok (.laload, 1) := by decide +kernel
theorem d_Top_refine_51 : decode b_Top_refine 51 = .ok (.lstore 5, 2) := by decide +kernel
theorem d_Top_refine_53 : decode b_Top_refine 53 = .ok (.aload_n 0, 1) := by decide +kernel
theorem d_Top_refine_54 : decode b_Top_refine 54 = .ok (.getfield 20, 3) := by decide +kernel
theorem d_Top_refine_57 : decode b_Top_refine 57 = .ok (.aload_n 0, 1) := by decide +kernel
theorem d_Top_refine_58 : decode b_Top_refine 58 = .ok (.getfield 80, 3) := by decide +kernel
theorem d_Top_refine_61 : decode b_Top_refine 61 = .ok (.getfield 149, 3) := by decide +kernel
theorem d_Top_refine_64 : decode b_Top_refine 64 = .ok (.iload_n 1, 1) := by decide +kernel
theorem d_Top_refine_65 : decode b_Top_refine 65 = .ok (.iaload, 1) := by decide +kernel
theorem d_Top_refine_66 : decode b_Top_refine 66 = .ok (.iload_n 2, 1) := by decide +kernel
theorem d_Top_refine_67 : decode b_Top_refine 67 = .ok (.iload_n 3, 1) := by decide +kernel
theorem d_Top_refine_68 : decode b_Top_refine 68 = .ok (.invokevirtual 129, 3) := by decide +kernel
theorem d_Top_refine_71 : decode b_Top_refine 71 = .ok (.istore 7, 2) := by decide +kernel
theorem d_Top_refine_73 : decode b_Top_refine 73 = .ok (.aload_n 0, 1) := by decide +kernel
theorem d_Top_refine_74 : decode b_Top_refine 74 = .ok (.getfield 80, 3) := by decide +kernel
theorem d_Top_refine_77 : decode b_Top_refine 77 = .ok (.getfield 155, 3) := by decide +kernel
theorem d_Top_refine_80 : decode b_Top_refine 80 = .ok (.iload_n 1, 1) := by decide +kernel
theorem d_Top_refine_81 : decode b_Top_refine 81 = .ok (.lload 5, 2) := by decide +kernel
theorem d_Top_refine_83 : decode b_Top_refine 83 = .ok (.iload 7, 2) := by decide +kernel
theorem d_Top_refine_85 : decode b_Top_refine 85 = .ok (.iload 4, 2) := by decide +kernel
theorem d_Top_refine_87 : decode b_Top_refine 87 = .ok (.invokestatic 132, 3) := by decide +kernel
theorem d_Top_refine_90 : decode b_Top_refine 90 = .ok (.lastore, 1) := by decide +kernel
theorem d_Top_refine_91 : decode b_Top_refine 91 = .ok (.aload_n 0, 1) := by decide +kernel
theorem d_Top_refine_92 : decode b_Top_refine 92 = .ok (.getfield 80, 3) := by decide +kernel
theorem d_Top_refine_95 : decode b_Top_refine 95 = .ok (.getfield 155, 3) := by decide +kernel
theorem d_Top_refine_98 : decode b_Top_refine 98 = .ok (.iload_n 1, 1) := by decide +kernel
theorem d_Top_refine_99 : decode b_Top_refine 99 = .ok (.laload, 1) := by decide +kernel
theorem d_Top_refine_100 : decode b_Top_refine 100 = .ok (.lload 5, 2) := by decide +kernel
theorem d_Top_refine_102 : decode b_Top_refine 102 = .ok (.lcmp, 1) := by decide +kernel
theorem d_Top_refine_103 : decode b_Top_refine 103 = .ok (.ifCond .eq 7, 3) := by decide +kernel
theorem d_Top_refine_106 : decode b_Top_refine 106 = .ok (.iconst 1, 1) := by decide +kernel
theorem d_Top_refine_107 : decode b_Top_refine 107 = .ok (.goto 4, 3) := by decide +kernel
theorem d_Top_refine_110 : decode b_Top_refine 110 = .ok (.iconst 0, 1) := by decide +kernel
theorem d_Top_refine_111 : decode b_Top_refine 111 = .ok (.ireturn, 1) := by decide +kernel
theorem d_Top_way_0 : decode b_Top_way 0 = .ok (.iload_n 1, 1) := by decide +kernel
theorem d_Top_way_1 : decode b_Top_way 1 = .ok (.iconst 0, 1) := by decide +kernel
theorem d_Top_way_2 : decode b_Top_way 2 = .ok (.iconst 3, 1) := by decide +kernel
theorem d_Top_way_3 : decode b_Top_way 3 = .ok (.invokestatic 90, 3) := by decide +kernel
theorem d_Top_way_6 : decode b_Top_way 6 = .ok (.ifCond .eq 16, 3) := by decide +kernel
theorem d_Top_way_9 : decode b_Top_way 9 = .ok (.iload_n 2, 1) := by decide +kernel
theorem d_Top_way_10 : decode b_Top_way 10 = .ok (.iconst 0, 1) := by decide +kernel
theorem d_Top_way_11 : decode b_Top_way 11 = .ok (.getstatic 158, 3) := by decide +kernel
theorem d_Top_way_14 : decode b_Top_way 14 = .ok (.iload_n 1, 1) := by decide +kernel
theorem d_Top_way_15 : decode b_Top_way 15 = .ok (.iaload, 1) := by decide +kernel
theorem d_Top_way_16 : decode b_Top_way 16 = .ok (.invokestatic 90, 3) := by decide +kernel
theorem d_Top_way_19 : decode b_Top_way 19 = .ok (.ifCond .ne 13, 3) := by decide +kernel
theorem d_Top_way_22 : decode b_Top_way 22 = .ok (.new 94, 3) := by decide +kernel
theorem d_Top_way_25 : decode b_Top_way 25 = .ok (.dup, 1) := by decide +kernel
theorem d_Top_way_26 : decode b_Top_way 26 = .ok (.ldc 161, 2) := by decide +kernel
theorem d_Top_way_28 : decode b_Top_way 28 = .ok (.invokespecial 98, 3) := by decide +kernel
theorem d_Top_way_31 : decode b_Top_way 31 = .ok (.athrow, 1) := by decide +kernel
theorem d_Top_way_32 : decode b_Top_way 32 = .ok (.aload_n 0, 1) := by decide +kernel
theorem d_Top_way_33 : decode b_Top_way 33 = .ok (.getfield 80, 3) := by decide +kernel
theorem d_Top_way_36 : decode b_Top_way 36 = .ok (.getfield 163, 3) := by decide +kernel
theorem d_Top_way_39 : decode b_Top_way 39 = .ok (.iload_n 1, 1) := by decide +kernel
theorem d_Top_way_40 : decode b_Top_way 40 = .ok (.iaload, 1) := by decide +kernel
theorem d_Top_way_41 : decode b_Top_way 41 = .ok (.istore_n 3, 1) := by decide +kernel
theorem d_Top_way_42 : decode b_Top_way 42 = .ok (.aload_n 0, 1) := by decide +kernel
theorem d_Top_way_43 : decode b_Top_way 43 = .ok (.getfield 80, 3) := by decide +kernel
theorem d_Top_way_46 : decode b_Top_way 46 = .ok (.getfield 163, 3) := by decide +kernel
theorem d_Top_way_49 : decode b_Top_way 49 = .ok (.iload_n 1, 1) := by decide +kernel
theorem d_Top_way_50 : decode b_Top_way 50 = .ok (.iload_n 2, 1) := by decide +kernel
theorem d_Top_way_51 : decode b_Top_way 51 = .ok (.iastore, 1) := by decide +kernel
theorem d_Top_way_52 : decode b_Top_way 52 = .ok (.iload_n 3, 1) := by decide +kernel
theorem d_Top_way_53 : decode b_Top_way 53 = .ok (.ireturn, 1) := by decide +kernel
theorem d_Top_order_0 : decode b_Top_order 0 = .ok (.iload_n 1, 1) := by decide +kernel
theorem d_Top_order_1 : decode b_Top_order 1 = .ok (.iconst 0, 1) := by decide +kernel
theorem d_Top_order_2 : decode b_Top_order 2 = .ok (.bipush 8, 2) := by decide +kernel
theorem d_Top_order_4 : decode b_Top_order 4 = .ok (.invokestatic 90, 3) := by decide +kernel
theorem d_Top_order_7 : decode b_Top_order 7 = .ok (.ifCond .ne 13, 3) := by decide +kernel
theorem d_Top_order_10 : decode b_Top_order 10 = .ok (.new 94, 3) := by decide +kernel
theorem d_Top_order_13 : decode b_Top_order 13 = .ok (.dup, 1) := by decide +kernel
theorem d_Top_order_14 : decode b_Top_order 14 = .ok (.ldc 166, 2) := by decide +kernel
theorem d_Top_order_16 : decode b_Top_order 16 = .ok (.invokespecial 98, 3) := by decide +kernel
theorem d_Top_order_19 : decode b_Top_order 19 = .ok (.athrow, 1) := by decide +kernel
theorem d_Top_order_20 : decode b_Top_order 20 = .ok (.aload_n 0, 1) := by decide +kernel
theorem d_Top_order_21 : decode b_Top_order 21 = .ok (.getfield 61, 3) := by decide +kernel
theorem d_Top_order_24 : decode b_Top_order 24 = .ok (.aload_n 0, 1) := by decide +kernel
theorem d_Top_order_25 : decode b_Top_order 25 = .ok (.getfield 80, 3) := by decide +kernel
theorem d_Top_order_28 : decode b_Top_order 28 = .ok (.invokevirtual 168, 3) := by decide +kernel
theorem d_Top_order_31 : decode b_Top_order 31 = .ok (.aload_n 0, 1) := by decide +kernel
theorem d_Top_order_32 : decode b_Top_order 32 = .ok (.getfield 80, 3) := by decide +kernel
theorem d_Top_order_35 : decode b_Top_order 35 = .ok (.getfield 163, 3) := by decide +kernel
theorem d_Top_order_38 : decode b_Top_order 38 = .ok (.iconst 3, 1) := by decide +kernel
theorem d_Top_order_39 : decode b_Top_order 39 = .ok (.iaload, 1) := by decide +kernel
theorem d_Top_order_40 : decode b_Top_order 40 = .ok (.iconst 4, 1) := by decide +kernel
theorem d_Top_order_41 : decode b_Top_order 41 = .ok (.if_icmp .eq 27, 3) := by decide +kernel
theorem d_Top_order_44 : decode b_Top_order 44 = .ok (.iconst 1, 1) := by decide +kernel
theorem d_Top_order_45 : decode b_Top_order 45 = .ok (.istore_n 2, 1) := by decide +kernel
theorem d_Top_order_46 : decode b_Top_order 46 = .ok (.iconst 0, 1) := by decide +kernel
theorem d_Top_order_47 : decode b_Top_order 47 = .ok (.istore_n 3, 1) := by decide +kernel
theorem d_Top_order_48 : decode b_Top_order 48 = .ok (.iload_n 3, 1) := by decide +kernel
theorem d_Top_order_49 : decode b_Top_order 49 = .ok (.iload_n 1, 1) := by decide +kernel
theorem d_Top_order_50 : decode b_Top_order 50 = .ok (.if_icmp .ge 18, 3) := by decide +kernel
theorem d_Top_order_53 : decode b_Top_order 53 = .ok (.iload_n 2, 1) := by decide +kernel
theorem d_Top_order_54 : decode b_Top_order 54 = .ok (.ifCond .eq 14, 3) := by decide +kernel
theorem d_Top_order_57 : decode b_Top_order 57 = .ok (.aload_n 0, 1) := by decide +kernel
theorem d_Top_order_58 : decode b_Top_order 58 = .ok (.invokevirtual 172, 3) := by decide +kernel
theorem d_Top_order_61 : decode b_Top_order 61 = .ok (.istore_n 2, 1) := by decide +kernel
theorem d_Top_order_62 : decode b_Top_order 62 = .ok (.iinc 3 1, 3) := by decide +kernel
theorem d_Top_order_65 : decode b_Top_order 65 = .ok (.goto (-17), 3) := by decide +kernel
theorem d_Top_order_68 : decode b_Top_order 68 = .ok (.aload_n 0, 1) := by decide +kernel
theorem d_Top_order_69 : decode b_Top_order 69 = .ok (.getfield 61, 3) := by decide +kernel
theorem d_Top_order_72 : decode b_Top_order 72 = .ok (.aload_n 0, 1) := by decide +kernel
theorem d_Top_order_73 : decode b_Top_order 73 = .ok (.getfield 80, 3) := by decide +kernel
theorem d_Top_order_76 : decode b_Top_order 76 = .ok (.iconst 0, 1) := by decide +kernel
theorem d_Top_order_77 : decode b_Top_order 77 = .ok (.invokevirtual 176, 3) := by decide +kernel
theorem d_Top_order_80 : decode b_Top_order 80 = .ok (.ireturn, 1) := by decide +kernel
theorem d_Top_compose_0 : decode b_Top_compose 0 = .ok (.aload_n 0, 1) := by decide +kernel
theorem d_Top_compose_1 : decode b_Top_compose 1 = .ok (.getfield 80, 3) := by decide +kernel
theorem d_Top_compose_4 : decode b_Top_compose 4 = .ok (.invokevirtual 180, 3) := by decide +kernel
theorem d_Top_compose_7 : decode b_Top_compose 7 = .ok (.aload_n 0, 1) := by decide +kernel
theorem d_Top_compose_8 : decode b_Top_compose 8 = .ok (.getfield 29, 3) := by decide +kernel
theorem d_Top_compose_11 : decode b_Top_compose 11 = .ok (.invokevirtual 183, 3) := by decide +kernel
theorem d_Top_compose_14 : decode b_Top_compose 14 = .ok (.iconst 0, 1) := by decide +kernel
theorem d_Top_compose_15 : decode b_Top_compose 15 = .ok (.istore_n 1, 1) := by decide +kernel
theorem d_Top_compose_16 : decode b_Top_compose 16 = .ok (.iload_n 1, 1) := by decide +kernel
theorem d_Top_compose_17 : decode b_Top_compose 17 = .ok (.aload_n 0, 1) := by decide +kernel
theorem d_Top_compose_18 : decode b_Top_compose 18 = .ok (.getfield 80, 3) := by decide +kernel
theorem d_Top_compose_21 : decode b_Top_compose 21 = .ok (.getfield 143, 3) := by decide +kernel
theorem d_Top_compose_24 : decode b_Top_compose 24 = .ok (.if_icmp .ge 29, 3) := by decide +kernel
theorem d_Top_compose_27 : decode b_Top_compose 27 = .ok (.aload_n 0, 1) := by decide +kernel
theorem d_Top_compose_28 : decode b_Top_compose 28 = .ok (.getfield 29, 3) := by decide +kernel
theorem d_Top_compose_31 : decode b_Top_compose 31 = .ok (.aload_n 0, 1) := by decide +kernel
theorem d_Top_compose_32 : decode b_Top_compose 32 = .ok (.getfield 80, 3) := by decide +kernel
theorem d_Top_compose_35 : decode b_Top_compose 35 = .ok (.aload_n 0, 1) := by decide +kernel
theorem d_Top_compose_36 : decode b_Top_compose 36 = .ok (.getfield 80, 3) := by decide +kernel
theorem d_Top_compose_39 : decode b_Top_compose 39 = .ok (.getfield 186, 3) := by decide +kernel
theorem d_Top_compose_42 : decode b_Top_compose 42 = .ok (.iload_n 1, 1) := by decide +kernel
theorem d_Top_compose_43 : decode b_Top_compose 43 = .ok (.iaload, 1) := by decide +kernel
theorem d_Top_compose_44 : decode b_Top_compose 44 = .ok (.invokevirtual 189, 3) := by decide +kernel
theorem d_Top_compose_47 : decode b_Top_compose 47 = .ok (.iinc 1 1, 3) := by decide +kernel
theorem d_Top_compose_50 : decode b_Top_compose 50 = .ok (.goto (-34), 3) := by decide +kernel
theorem d_Top_compose_53 : decode b_Top_compose 53 = .ok (.aload_n 0, 1) := by decide +kernel
theorem d_Top_compose_54 : decode b_Top_compose 54 = .ok (.getfield 29, 3) := by decide +kernel
theorem d_Top_compose_57 : decode b_Top_compose 57 = .ok (.invokevirtual 193, 3) := by decide +kernel
theorem d_Top_compose_60 : decode b_Top_compose 60 = .ok (.ireturn, 1) := by decide +kernel
theorem d_Top_at_0 : decode b_Top_at 0 = .ok (.aload_n 0, 1) := by decide +kernel
theorem d_Top_at_1 : decode b_Top_at 1 = .ok (.getfield 29, 3) := by decide +kernel
theorem d_Top_at_4 : decode b_Top_at 4 = .ok (.iload_n 1, 1) := by decide +kernel
theorem d_Top_at_5 : decode b_Top_at 5 = .ok (.iload_n 2, 1) := by decide +kernel
theorem d_Top_at_6 : decode b_Top_at 6 = .ok (.invokevirtual 197, 3) := by decide +kernel
theorem d_Top_at_9 : decode b_Top_at 9 = .ok (.ifCond .ne 13, 3) := by decide +kernel
theorem d_Top_at_12 : decode b_Top_at 12 = .ok (.new 120, 3) := by decide +kernel
theorem d_Top_at_15 : decode b_Top_at 15 = .ok (.dup, 1) := by decide +kernel
theorem d_Top_at_16 : decode b_Top_at 16 = .ok (.ldc 200, 2) := by decide +kernel
theorem d_Top_at_18 : decode b_Top_at 18 = .ok (.invokespecial 124, 3) := by decide +kernel
theorem d_Top_at_21 : decode b_Top_at 21 = .ok (.athrow, 1) := by decide +kernel
theorem d_Top_at_22 : decode b_Top_at 22 = .ok (.aload_n 0, 1) := by decide +kernel
theorem d_Top_at_23 : decode b_Top_at 23 = .ok (.getfield 29, 3) := by decide +kernel
theorem d_Top_at_26 : decode b_Top_at 26 = .ok (.getfield 202, 3) := by decide +kernel
theorem d_Top_at_29 : decode b_Top_at 29 = .ok (.iload_n 2, 1) := by decide +kernel
theorem d_Top_at_30 : decode b_Top_at 30 = .ok (.aload_n 0, 1) := by decide +kernel
theorem d_Top_at_31 : decode b_Top_at 31 = .ok (.getfield 29, 3) := by decide +kernel
theorem d_Top_at_34 : decode b_Top_at 34 = .ok (.getfield 206, 3) := by decide +kernel
theorem d_Top_at_37 : decode b_Top_at 37 = .ok (.imul, 1) := by decide +kernel
theorem d_Top_at_38 : decode b_Top_at 38 = .ok (.iload_n 1, 1) := by decide +kernel
theorem d_Top_at_39 : decode b_Top_at 39 = .ok (.iadd, 1) := by decide +kernel
theorem d_Top_at_40 : decode b_Top_at 40 = .ok (.baload, 1) := by decide +kernel
theorem d_Top_at_41 : decode b_Top_at 41 = .ok (.ireturn, 1) := by decide +kernel
theorem d_Top_write_0 : decode b_Top_write 0 = .ok (.aload_n 0, 1) := by decide +kernel
theorem d_Top_write_1 : decode b_Top_write 1 = .ok (.getfield 61, 3) := by decide +kernel
theorem d_Top_write_4 : decode b_Top_write 4 = .ok (.aload_n 0, 1) := by decide +kernel
theorem d_Top_write_5 : decode b_Top_write 5 = .ok (.getfield 80, 3) := by decide +kernel
theorem d_Top_write_8 : decode b_Top_write 8 = .ok (.invokevirtual 168, 3) := by decide +kernel
theorem d_Top_write_11 : decode b_Top_write 11 = .ok (.aload_n 0, 1) := by decide +kernel
theorem d_Top_write_12 : decode b_Top_write 12 = .ok (.getfield 61, 3) := by decide +kernel
theorem d_Top_write_15 : decode b_Top_write 15 = .ok (.aload_n 0, 1) := by decide +kernel
theorem d_Top_write_16 : decode b_Top_write 16 = .ok (.getfield 80, 3) := by decide +kernel
theorem d_Top_write_19 : decode b_Top_write 19 = .ok (.iconst 1, 1) := by decide +kernel
theorem d_Top_write_20 : decode b_Top_write 20 = .ok (.invokevirtual 176, 3) := by decide +kernel
theorem d_Top_write_23 : decode b_Top_write 23 = .ok (.pop, 1) := by decide +kernel
theorem d_Top_write_24 : decode b_Top_write 24 = .ok (.aload_n 0, 1) := by decide +kernel
theorem d_Top_write_25 : decode b_Top_write 25 = .ok (.getfield 36, 3) := by decide +kernel
theorem d_Top_write_28 : decode b_Top_write 28 = .ok (.getfield 209, 3) := by decide +kernel
theorem d_Top_write_31 : decode b_Top_write 31 = .ok (.ireturn, 1) := by decide +kernel
theorem d_Top_byteAt_0 : decode b_Top_byteAt 0 = .ok (.iload_n 1, 1) := by decide +kernel
theorem d_Top_byteAt_1 : decode b_Top_byteAt 1 = .ok (.iconst 0, 1) := by decide +kernel
theorem d_Top_byteAt_2 : decode b_Top_byteAt 2 = .ok (.aload_n 0, 1) := by decide +kernel
theorem d_Top_byteAt_3 : decode b_Top_byteAt 3 = .ok (.getfield 36, 3) := by decide +kernel
theorem d_Top_byteAt_6 : decode b_Top_byteAt 6 = .ok (.getfield 209, 3) := by decide +kernel
theorem d_Top_byteAt_9 : decode b_Top_byteAt 9 = .ok (.iconst 1, 1) := by decide +kernel
theorem d_Top_byteAt_10 : decode b_Top_byteAt 10 = .ok (.isub, 1) := by decide +kernel
theorem d_Top_byteAt_11 : decode b_Top_byteAt 11 = .ok (.invokestatic 90, 3) := by decide +kernel
theorem d_Top_byteAt_14 : decode b_Top_byteAt 14 = .ok (.ifCond .ne 13, 3) := by decide +kernel
theorem d_Top_byteAt_17 : decode b_Top_byteAt 17 = .ok (.new 120, 3) := by decide +kernel
theorem d_Top_byteAt_20 : decode b_Top_byteAt 20 = .ok (.dup, 1) := by decide +kernel
theorem d_Top_byteAt_21 : decode b_Top_byteAt 21 = .ok (.ldc 210, 2) := by decide +kernel
theorem d_Top_byteAt_23 : decode b_Top_byteAt 23 = .ok (.invokespecial 124, 3) := by decide +kernel
theorem d_Top_byteAt_26 : decode b_Top_byteAt 26 = .ok (.athrow, 1) := by decide +kernel
theorem d_Top_byteAt_27 : decode b_Top_byteAt 27 = .ok (.aload_n 0, 1) := by decide +kernel
theorem d_Top_byteAt_28 : decode b_Top_byteAt 28 = .ok (.getfield 36, 3) := by decide +kernel
theorem d_Top_byteAt_31 : decode b_Top_byteAt 31 = .ok (.getfield 212, 3) := by decide +kernel
theorem d_Top_byteAt_34 : decode b_Top_byteAt 34 = .ok (.iload_n 1, 1) := by decide +kernel
theorem d_Top_byteAt_35 : decode b_Top_byteAt 35 = .ok (.iaload, 1) := by decide +kernel
theorem d_Top_byteAt_36 : decode b_Top_byteAt 36 = .ok (.ireturn, 1) := by decide +kernel
theorem d_Top_feed_0 : decode b_Top_feed 0 = .ok (.iload_n 1, 1) := by decide +kernel
theorem d_Top_feed_1 : decode b_Top_feed 1 = .ok (.iconst 0, 1) := by decide +kernel
theorem d_Top_feed_2 : decode b_Top_feed 2 = .ok (.sipush 255, 3) := by decide +kernel
theorem d_Top_feed_5 : decode b_Top_feed 5 = .ok (.invokestatic 90, 3) := by decide +kernel
theorem d_Top_feed_8 : decode b_Top_feed 8 = .ok (.ifCond .ne 13, 3) := by decide +kernel
theorem d_Top_feed_11 : decode b_Top_feed 11 = .ok (.new 94, 3) := by decide +kernel
theorem d_Top_feed_14 : decode b_Top_feed 14 = .ok (.dup, 1) := by decide +kernel
theorem d_Top_feed_15 : decode b_Top_feed 15 = .ok (.ldc 215, 2) := by decide +kernel
theorem d_Top_feed_17 : decode b_Top_feed 17 = .ok (.invokespecial 98, 3) := by decide +kernel
theorem d_Top_feed_20 : decode b_Top_feed 20 = .ok (.athrow, 1) := by decide +kernel
theorem d_Top_feed_21 : decode b_Top_feed 21 = .ok (.aload_n 0, 1) := by decide +kernel
theorem d_Top_feed_22 : decode b_Top_feed 22 = .ok (.getfield 40, 3) := by decide +kernel
theorem d_Top_feed_25 : decode b_Top_feed 25 = .ok (.getfield 209, 3) := by decide +kernel
theorem d_Top_feed_28 : decode b_Top_feed 28 = .ok (.sipush 2000, 3) := by decide +kernel
theorem d_Top_feed_31 : decode b_Top_feed 31 = .ok (.if_icmp .lt 13, 3) := by decide +kernel
theorem d_Top_feed_34 : decode b_Top_feed 34 = .ok (.new 104, 3) := by decide +kernel
theorem d_Top_feed_37 : decode b_Top_feed 37 = .ok (.dup, 1) := by decide +kernel
theorem d_Top_feed_38 : decode b_Top_feed 38 = .ok (.ldc 217, 2) := by decide +kernel
theorem d_Top_feed_40 : decode b_Top_feed 40 = .ok (.invokespecial 108, 3) := by decide +kernel
theorem d_Top_feed_43 : decode b_Top_feed 43 = .ok (.athrow, 1) := by decide +kernel
theorem d_Top_feed_44 : decode b_Top_feed 44 = .ok (.aload_n 0, 1) := by decide +kernel
theorem d_Top_feed_45 : decode b_Top_feed 45 = .ok (.getfield 40, 3) := by decide +kernel
theorem d_Top_feed_48 : decode b_Top_feed 48 = .ok (.iload_n 1, 1) := by decide +kernel
theorem d_Top_feed_49 : decode b_Top_feed 49 = .ok (.invokevirtual 219, 3) := by decide +kernel
theorem d_Top_feed_52 : decode b_Top_feed 52 = .ok (.aload_n 0, 1) := by decide +kernel
theorem d_Top_feed_53 : decode b_Top_feed 53 = .ok (.getfield 40, 3) := by decide +kernel
theorem d_Top_feed_56 : decode b_Top_feed 56 = .ok (.getfield 209, 3) := by decide +kernel
theorem d_Top_feed_59 : decode b_Top_feed 59 = .ok (.ireturn, 1) := by decide +kernel
theorem d_Top_pass_0 : decode b_Top_pass 0 = .ok (.aload_n 0, 1) := by decide +kernel
theorem d_Top_pass_1 : decode b_Top_pass 1 = .ok (.getfield 36, 3) := by decide +kernel
theorem d_Top_pass_4 : decode b_Top_pass 4 = .ok (.getfield 209, 3) := by decide +kernel
theorem d_Top_pass_7 : decode b_Top_pass 7 = .ok (.sipush 2000, 3) := by decide +kernel
theorem d_Top_pass_10 : decode b_Top_pass 10 = .ok (.aload_n 0, 1) := by decide +kernel
theorem d_Top_pass_11 : decode b_Top_pass 11 = .ok (.getfield 40, 3) := by decide +kernel
theorem d_Top_pass_14 : decode b_Top_pass 14 = .ok (.getfield 209, 3) := by decide +kernel
theorem d_Top_pass_17 : decode b_Top_pass 17 = .ok (.isub, 1) := by decide +kernel
theorem d_Top_pass_18 : decode b_Top_pass 18 = .ok (.if_icmp .le 13, 3) := by decide +kernel
theorem d_Top_pass_21 : decode b_Top_pass 21 = .ok (.new 104, 3) := by decide +kernel
theorem d_Top_pass_24 : decode b_Top_pass 24 = .ok (.dup, 1) := by decide +kernel
theorem d_Top_pass_25 : decode b_Top_pass 25 = .ok (.ldc 223, 2) := by decide +kernel
theorem d_Top_pass_27 : decode b_Top_pass 27 = .ok (.invokespecial 108, 3) := by decide +kernel
theorem d_Top_pass_30 : decode b_Top_pass 30 = .ok (.athrow, 1) := by decide +kernel
theorem d_Top_pass_31 : decode b_Top_pass 31 = .ok (.iconst 0, 1) := by decide +kernel
theorem d_Top_pass_32 : decode b_Top_pass 32 = .ok (.istore_n 1, 1) := by decide +kernel
theorem d_Top_pass_33 : decode b_Top_pass 33 = .ok (.iload_n 1, 1) := by decide +kernel
theorem d_Top_pass_34 : decode b_Top_pass 34 = .ok (.aload_n 0, 1) := by decide +kernel
theorem d_Top_pass_35 : decode b_Top_pass 35 = .ok (.getfield 36, 3) := by decide +kernel
theorem d_Top_pass_38 : decode b_Top_pass 38 = .ok (.getfield 209, 3) := by decide +kernel
theorem d_Top_pass_41 : decode b_Top_pass 41 = .ok (.if_icmp .ge 25, 3) := by decide +kernel
theorem d_Top_pass_44 : decode b_Top_pass 44 = .ok (.aload_n 0, 1) := by decide +kernel
theorem d_Top_pass_45 : decode b_Top_pass 45 = .ok (.getfield 40, 3) := by decide +kernel
theorem d_Top_pass_48 : decode b_Top_pass 48 = .ok (.aload_n 0, 1) := by decide +kernel
theorem d_Top_pass_49 : decode b_Top_pass 49 = .ok (.getfield 36, 3) := by decide +kernel
theorem d_Top_pass_52 : decode b_Top_pass 52 = .ok (.getfield 212, 3) := by decide +kernel
theorem d_Top_pass_55 : decode b_Top_pass 55 = .ok (.iload_n 1, 1) := by decide +kernel
theorem d_Top_pass_56 : decode b_Top_pass 56 = .ok (.iaload, 1) := by decide +kernel
theorem d_Top_pass_57 : decode b_Top_pass 57 = .ok (.invokevirtual 219, 3) := by decide +kernel
theorem d_Top_pass_60 : decode b_Top_pass 60 = .ok (.iinc 1 1, 3) := by decide +kernel
theorem d_Top_pass_63 : decode b_Top_pass 63 = .ok (.goto (-30), 3) := by decide +kernel
theorem d_Top_pass_66 : decode b_Top_pass 66 = .ok (.aload_n 0, 1) := by decide +kernel
theorem d_Top_pass_67 : decode b_Top_pass 67 = .ok (.getfield 40, 3) := by decide +kernel
theorem d_Top_pass_70 : decode b_Top_pass 70 = .ok (.getfield 209, 3) := by decide +kernel
theorem d_Top_pass_73 : decode b_Top_pass 73 = .ok (.ireturn, 1) := by decide +kernel
theorem d_Top_read_0 : decode b_Top_read 0 = .ok (.aload_n 0, 1) := by decide +kernel
theorem d_Top_read_1 : decode b_Top_read 1 = .ok (.getfield 73, 3) := by decide +kernel
theorem d_Top_read_4 : decode b_Top_read 4 = .ok (.aload_n 0, 1) := by decide +kernel
theorem d_Top_read_5 : decode b_Top_read 5 = .ok (.getfield 84, 3) := by decide +kernel
theorem d_Top_read_8 : decode b_Top_read 8 = .ok (.invokevirtual 225, 3) := by decide +kernel
theorem d_Top_read_11 : decode b_Top_read 11 = .ok (.istore_n 1, 1) := by decide +kernel
theorem d_Top_read_12 : decode b_Top_read 12 = .ok (.aload_n 0, 1) := by decide +kernel
theorem d_Top_read_13 : decode b_Top_read 13 = .ok (.iload_n 1, 1) := by decide +kernel
theorem d_Top_read_14 : decode b_Top_read 14 = .ok (.ifCond .ne 7, 3) := by decide +kernel
theorem d_Top_read_17 : decode b_Top_read 17 = .ok (.iconst (-1), 1) := by decide +kernel
theorem d_Top_read_18 : decode b_Top_read 18 = .ok (.goto 10, 3) := by decide +kernel
theorem d_Top_read_21 : decode b_Top_read 21 = .ok (.aload_n 0, 1) := by decide +kernel
theorem d_Top_read_22 : decode b_Top_read 22 = .ok (.getfield 73, 3) := by decide +kernel
theorem d_Top_read_25 : decode b_Top_read 25 = .ok (.invokevirtual 229, 3) := by decide +kernel
theorem d_Top_read_28 : decode b_Top_read 28 = .ok (.putfield 87, 3) := by decide +kernel
theorem d_Top_read_31 : decode b_Top_read 31 = .ok (.aload_n 0, 1) := by decide +kernel
theorem d_Top_read_32 : decode b_Top_read 32 = .ok (.getfield 40, 3) := by decide +kernel
theorem d_Top_read_35 : decode b_Top_read 35 = .ok (.iconst 0, 1) := by decide +kernel
theorem d_Top_read_36 : decode b_Top_read 36 = .ok (.putfield 209, 3) := by decide +kernel
theorem d_Top_read_39 : decode b_Top_read 39 = .ok (.iload_n 1, 1) := by decide +kernel
theorem d_Top_read_40 : decode b_Top_read 40 = .ok (.ifCond .eq 7, 3) := by decide +kernel
theorem d_Top_read_43 : decode b_Top_read 43 = .ok (.iconst (-1), 1) := by decide +kernel
theorem d_Top_read_44 : decode b_Top_read 44 = .ok (.iload_n 1, 1) := by decide +kernel
theorem d_Top_read_45 : decode b_Top_read 45 = .ok (.isub, 1) := by decide +kernel
theorem d_Top_read_46 : decode b_Top_read 46 = .ok (.ireturn, 1) := by decide +kernel
theorem d_Top_read_47 : decode b_Top_read 47 = .ok (.aload_n 0, 1) := by decide +kernel
theorem d_Top_read_48 : decode b_Top_read 48 = .ok (.getfield 80, 3) := by decide +kernel
theorem d_Top_read_51 : decode b_Top_read 51 = .ok (.astore_n 2, 1) := by decide +kernel
theorem d_Top_read_52 : decode b_Top_read 52 = .ok (.aload_n 0, 1) := by decide +kernel
theorem d_Top_read_53 : decode b_Top_read 53 = .ok (.aload_n 0, 1) := by decide +kernel
theorem d_Top_read_54 : decode b_Top_read 54 = .ok (.getfield 84, 3) := by decide +kernel
theorem d_Top_read_57 : decode b_Top_read 57 = .ok (.putfield 80, 3) := by decide +kernel
theorem d_Top_read_60 : decode b_Top_read 60 = .ok (.aload_n 0, 1) := by decide +kernel
theorem d_Top_read_61 : decode b_Top_read 61 = .ok (.aload_n 2, 1) := by decide +kernel
theorem d_Top_read_62 : decode b_Top_read 62 = .ok (.putfield 84, 3) := by decide +kernel
theorem d_Top_read_65 : decode b_Top_read 65 = .ok (.aload_n 0, 1) := by decide +kernel
theorem d_Top_read_66 : decode b_Top_read 66 = .ok (.getfield 80, 3) := by decide +kernel
theorem d_Top_read_69 : decode b_Top_read 69 = .ok (.getfield 143, 3) := by decide +kernel
theorem d_Top_read_72 : decode b_Top_read 72 = .ok (.ireturn, 1) := by decide +kernel
theorem d_Top_place_0 : decode b_Top_place 0 = .ok (.aload_n 0, 1) := by decide +kernel
theorem d_Top_place_1 : decode b_Top_place 1 = .ok (.getfield 80, 3) := by decide +kernel
theorem d_Top_place_4 : decode b_Top_place 4 = .ok (.iload_n 1, 1) := by decide +kernel
theorem d_Top_place_5 : decode b_Top_place 5 = .ok (.invokevirtual 148, 3) := by decide +kernel
theorem d_Top_place_8 : decode b_Top_place 8 = .ok (.ifCond .ne 13, 3) := by decide +kernel
theorem d_Top_place_11 : decode b_Top_place 11 = .ok (.new 120, 3) := by decide +kernel
theorem d_Top_place_14 : decode b_Top_place 14 = .ok (.dup, 1) := by decide +kernel
theorem d_Top_place_15 : decode b_Top_place 15 = .ok (.ldc 232, 2) := by decide +kernel
theorem d_Top_place_17 : decode b_Top_place 17 = .ok (.invokespecial 124, 3) := by decide +kernel
theorem d_Top_place_20 : decode b_Top_place 20 = .ok (.athrow, 1) := by decide +kernel
theorem d_Top_place_21 : decode b_Top_place 21 = .ok (.iload_n 2, 1) := by decide +kernel
theorem d_Top_place_22 : decode b_Top_place 22 = .ok (.tableswitch 112 0 6 #[42, 52, 62, 72, 81, 90, 99], 42) := by decide +kernel
theorem d_Top_place_64 : decode b_Top_place 64 = .ok (.aload_n 0, 1) := by decide +kernel
theorem d_Top_place_65 : decode b_Top_place 65 = .ok (.getfield 80, 3) := by decide +kernel
theorem d_Top_place_68 : decode b_Top_place 68 = .ok (.getfield 149, 3) := by decide +kernel
theorem d_Top_place_71 : decode b_Top_place 71 = .ok (.iload_n 1, 1) := by decide +kernel
theorem d_Top_place_72 : decode b_Top_place 72 = .ok (.iaload, 1) := by decide +kernel
theorem d_Top_place_73 : decode b_Top_place 73 = .ok (.ireturn, 1) := by decide +kernel
theorem d_Top_place_74 : decode b_Top_place 74 = .ok (.aload_n 0, 1) := by decide +kernel
theorem d_Top_place_75 : decode b_Top_place 75 = .ok (.getfield 80, 3) := by decide +kernel
theorem d_Top_place_78 : decode b_Top_place 78 = .ok (.getfield 234, 3) := by decide +kernel
theorem d_Top_place_81 : decode b_Top_place 81 = .ok (.iload_n 1, 1) := by decide +kernel
theorem d_Top_place_82 : decode b_Top_place 82 = .ok (.iaload, 1) := by decide +kernel
theorem d_Top_place_83 : decode b_Top_place 83 = .ok (.ireturn, 1) := by decide +kernel
theorem d_Top_place_84 : decode b_Top_place 84 = .ok (.aload_n 0, 1) := by decide +kernel
theorem d_Top_place_85 : decode b_Top_place 85 = .ok (.getfield 80, 3) := by decide +kernel
theorem d_Top_place_88 : decode b_Top_place 88 = .ok (.getfield 237, 3) := by decide +kernel
theorem d_Top_place_91 : decode b_Top_place 91 = .ok (.iload_n 1, 1) := by decide +kernel
theorem d_Top_place_92 : decode b_Top_place 92 = .ok (.iaload, 1) := by decide +kernel
theorem d_Top_place_93 : decode b_Top_place 93 = .ok (.ireturn, 1) := by decide +kernel
theorem d_Top_place_94 : decode b_Top_place 94 = .ok (.aload_n 0, 1) := by decide +kernel
theorem d_Top_place_95 : decode b_Top_place 95 = .ok (.getfield 80, 3) := by decide +kernel
theorem d_Top_place_98 : decode b_Top_place 98 = .ok (.iload_n 1, 1) := by decide +kernel
theorem d_Top_place_99 : decode b_Top_place 99 = .ok (.invokevirtual 240, 3) := by decide +kernel
theorem d_Top_place_102 : decode b_Top_place 102 = .ok (.ireturn, 1) := by decide +kernel
theorem d_Top_place_103 : decode b_Top_place 103 = .ok (.aload_n 0, 1) := by decide +kernel
theorem d_Top_place_104 : decode b_Top_place 104 = .ok (.getfield 80, 3) := by decide +kernel
theorem d_Top_place_107 : decode b_Top_place 107 = .ok (.iload_n 1, 1) := by decide +kernel
theorem d_Top_place_108 : decode b_Top_place 108 = .ok (.invokevirtual 244, 3) := by decide +kernel
theorem d_Top_place_111 : decode b_Top_place 111 = .ok (.ireturn, 1) := by decide +kernel
theorem d_Top_place_112 : decode b_Top_place 112 = .ok (.aload_n 0, 1) := by decide +kernel
theorem d_Top_place_113 : decode b_Top_place 113 = .ok (.getfield 80, 3) := by decide +kernel
theorem d_Top_place_116 : decode b_Top_place 116 = .ok (.iload_n 1, 1) := by decide +kernel
theorem d_Top_place_117 : decode b_Top_place 117 = .ok (.invokevirtual 247, 3) := by decide +kernel
theorem d_Top_place_120 : decode b_Top_place 120 = .ok (.ireturn, 1) := by decide +kernel
theorem d_Top_place_121 : decode b_Top_place 121 = .ok (.aload_n 0, 1) := by decide +kernel
theorem d_Top_place_122 : decode b_Top_place 122 = .ok (.getfield 80, 3) := by decide +kernel
theorem d_Top_place_125 : decode b_Top_place 125 = .ok (.getfield 155, 3) := by decide +kernel
theorem d_Top_place_128 : decode b_Top_place 128 = .ok (.iload_n 1, 1) := by decide +kernel
theorem d_Top_place_129 : decode b_Top_place 129 = .ok (.laload, 1) := by decide +kernel
theorem d_Top_place_130 : decode b_Top_place 130 = .ok (.invokestatic 250, 3) := by decide +kernel
theorem d_Top_place_133 : decode b_Top_place 133 = .ok (.ireturn, 1) := by decide +kernel
theorem d_Top_place_134 : decode b_Top_place 134 = .ok (.iconst (-1), 1) := by decide +kernel
theorem d_Top_place_135 : decode b_Top_place 135 = .ok (.ireturn, 1) := by decide +kernel
theorem d_Top_told_0 : decode b_Top_told 0 = .ok (.iload_n 1, 1) := by decide +kernel
theorem d_Top_told_1 : decode b_Top_told 1 = .ok (.tableswitch 105 0 7 #[47, 55, 63, 68, 76, 84, 92, 100], 47) := by decide +kernel
theorem d_Top_told_48 : decode b_Top_told 48 = .ok (.aload_n 0, 1) := by decide +kernel
theorem d_Top_told_49 : decode b_Top_told 49 = .ok (.getfield 29, 3) := by decide +kernel
theorem d_Top_told_52 : decode b_Top_told 52 = .ok (.getfield 206, 3) := by decide +kernel
theorem d_Top_told_55 : decode b_Top_told 55 = .ok (.ireturn, 1) := by decide +kernel
theorem d_Top_told_56 : decode b_Top_told 56 = .ok (.aload_n 0, 1) := by decide +kernel
theorem d_Top_told_57 : decode b_Top_told 57 = .ok (.getfield 29, 3) := by decide +kernel
theorem d_Top_told_60 : decode b_Top_told 60 = .ok (.getfield 256, 3) := by decide +kernel
theorem d_Top_told_63 : decode b_Top_told 63 = .ok (.ireturn, 1) := by decide +kernel
theorem d_Top_told_64 : decode b_Top_told 64 = .ok (.aload_n 0, 1) := by decide +kernel
theorem d_Top_told_65 : decode b_Top_told 65 = .ok (.getfield 13, 3) := by decide +kernel
theorem d_Top_told_68 : decode b_Top_told 68 = .ok (.ireturn, 1) := by decide +kernel
theorem d_Top_told_69 : decode b_Top_told 69 = .ok (.aload_n 0, 1) := by decide +kernel
theorem d_Top_told_70 : decode b_Top_told 70 = .ok (.getfield 20, 3) := by decide +kernel
theorem d_Top_told_73 : decode b_Top_told 73 = .ok (.getfield 101, 3) := by decide +kernel
theorem d_Top_told_76 : decode b_Top_told 76 = .ok (.ireturn, 1) := by decide +kernel
theorem d_Top_told_77 : decode b_Top_told 77 = .ok (.aload_n 0, 1) := by decide +kernel
theorem d_Top_told_78 : decode b_Top_told 78 = .ok (.getfield 80, 3) := by decide +kernel
theorem d_Top_told_81 : decode b_Top_told 81 = .ok (.getfield 143, 3) := by decide +kernel
theorem d_Top_told_84 : decode b_Top_told 84 = .ok (.ireturn, 1) := by decide +kernel
theorem d_Top_told_85 : decode b_Top_told 85 = .ok (.aload_n 0, 1) := by decide +kernel
theorem d_Top_told_86 : decode b_Top_told 86 = .ok (.getfield 36, 3) := by decide +kernel
theorem d_Top_told_89 : decode b_Top_told 89 = .ok (.getfield 209, 3) := by decide +kernel
theorem d_Top_told_92 : decode b_Top_told 92 = .ok (.ireturn, 1) := by decide +kernel
theorem d_Top_told_93 : decode b_Top_told 93 = .ok (.aload_n 0, 1) := by decide +kernel
theorem d_Top_told_94 : decode b_Top_told 94 = .ok (.getfield 40, 3) := by decide +kernel
theorem d_Top_told_97 : decode b_Top_told 97 = .ok (.getfield 209, 3) := by decide +kernel
theorem d_Top_told_100 : decode b_Top_told 100 = .ok (.ireturn, 1) := by decide +kernel
theorem d_Top_told_101 : decode b_Top_told 101 = .ok (.aload_n 0, 1) := by decide +kernel
theorem d_Top_told_102 : decode b_Top_told 102 = .ok (.getfield 87, 3) := by decide +kernel
theorem d_Top_told_105 : decode b_Top_told 105 = .ok (.ireturn, 1) := by decide +kernel
theorem d_Top_told_106 : decode b_Top_told 106 = .ok (.iconst (-1), 1) := by decide +kernel
theorem d_Top_told_107 : decode b_Top_told 107 = .ok (.ireturn, 1) := by decide +kernel
theorem d_Top_clear_0 : decode b_Top_clear 0 = .ok (.aload_n 0, 1) := by decide +kernel
theorem d_Top_clear_1 : decode b_Top_clear 1 = .ok (.getfield 20, 3) := by decide +kernel
theorem d_Top_clear_4 : decode b_Top_clear 4 = .ok (.iconst 0, 1) := by decide +kernel
theorem d_Top_clear_5 : decode b_Top_clear 5 = .ok (.putfield 101, 3) := by decide +kernel
theorem d_Top_clear_8 : decode b_Top_clear 8 = .ok (.aload_n 0, 1) := by decide +kernel
theorem d_Top_clear_9 : decode b_Top_clear 9 = .ok (.getfield 80, 3) := by decide +kernel
theorem d_Top_clear_12 : decode b_Top_clear 12 = .ok (.invokevirtual 259, 3) := by decide +kernel
theorem d_Top_clear_15 : decode b_Top_clear 15 = .ok (.aload_n 0, 1) := by decide +kernel
theorem d_Top_clear_16 : decode b_Top_clear 16 = .ok (.getfield 36, 3) := by decide +kernel
theorem d_Top_clear_19 : decode b_Top_clear 19 = .ok (.iconst 0, 1) := by decide +kernel
theorem d_Top_clear_20 : decode b_Top_clear 20 = .ok (.putfield 209, 3) := by decide +kernel
theorem d_Top_clear_23 : decode b_Top_clear 23 = .ok (.aload_n 0, 1) := by decide +kernel
theorem d_Top_clear_24 : decode b_Top_clear 24 = .ok (.getfield 40, 3) := by decide +kernel
theorem d_Top_clear_27 : decode b_Top_clear 27 = .ok (.iconst 0, 1) := by decide +kernel
theorem d_Top_clear_28 : decode b_Top_clear 28 = .ok (.putfield 209, 3) := by decide +kernel
theorem d_Top_clear_31 : decode b_Top_clear 31 = .ok (.aload_n 0, 1) := by decide +kernel
theorem d_Top_clear_32 : decode b_Top_clear 32 = .ok (.getfield 29, 3) := by decide +kernel
theorem d_Top_clear_35 : decode b_Top_clear 35 = .ok (.invokevirtual 183, 3) := by decide +kernel
theorem d_Top_clear_38 : decode b_Top_clear 38 = .ok (.return_, 1) := by decide +kernel
theorem d_Top_changeNeighbours_0 : decode b_Top_changeNeighbours 0 = .ok (.iconst 0, 1) := by decide +kernel
theorem d_Top_changeNeighbours_1 : decode b_Top_changeNeighbours 1 = .ok (.istore_n 1, 1) := by decide +kernel
theorem d_Top_changeNeighbours_2 : decode b_Top_changeNeighbours 2 = .ok (.aload_n 0, 1) := by decide +kernel
theorem d_Top_changeNeighbours_3 : decode b_Top_changeNeighbours 3 = .ok (.getfield 61, 3) := by decide +kernel
theorem d_Top_changeNeighbours_6 : decode b_Top_changeNeighbours 6 = .ok (.aload_n 0, 1) := by decide +kernel
theorem d_Top_changeNeighbours_7 : decode b_Top_changeNeighbours 7 = .ok (.getfield 80, 3) := by decide +kernel
theorem d_Top_changeNeighbours_10 : decode b_Top_changeNeighbours 10 = .ok (.iconst 0, 1) := by decide +kernel
theorem d_Top_changeNeighbours_11 : decode b_Top_changeNeighbours 11 = .ok (.invokevirtual 176, 3) := by decide +kernel
theorem d_Top_changeNeighbours_14 : decode b_Top_changeNeighbours 14 = .ok (.istore_n 2, 1) := by decide +kernel
theorem d_Top_changeNeighbours_15 : decode b_Top_changeNeighbours 15 = .ok (.iconst 0, 1) := by decide +kernel
theorem d_Top_changeNeighbours_16 : decode b_Top_changeNeighbours 16 = .ok (.istore_n 3, 1) := by decide +kernel
theorem d_Top_changeNeighbours_17 : decode b_Top_changeNeighbours 17 = .ok (.iload_n 3, 1) := by decide +kernel
theorem d_Top_changeNeighbours_18 : decode b_Top_changeNeighbours 18 = .ok (.iconst 1, 1) := by decide +kernel
theorem d_Top_changeNeighbours_19 : decode b_Top_changeNeighbours 19 = .ok (.iadd, 1) := by decide +kernel
theorem d_Top_changeNeighbours_20 : decode b_Top_changeNeighbours 20 = .ok (.aload_n 0, 1) := by decide +kernel
theorem d_Top_changeNeighbours_21 : decode b_Top_changeNeighbours 21 = .ok (.getfield 80, 3) := by decide +kernel
theorem d_Top_changeNeighbours_24 : decode b_Top_changeNeighbours 24 = .ok (.getfield 143, 3) := by decide +kernel
theorem d_Top_changeNeighbours_27 : decode b_Top_changeNeighbours 27 = .ok (.if_icmp .ge 74, 3) := by decide +kernel
theorem d_Top_changeNeighbours_30 : decode b_Top_changeNeighbours 30 = .ok (.aload_n 0, 1) := by decide +kernel
theorem d_Top_changeNeighbours_31 : decode b_Top_changeNeighbours 31 = .ok (.getfield 80, 3) := by decide +kernel
theorem d_Top_changeNeighbours_34 : decode b_Top_changeNeighbours 34 = .ok (.iload_n 3, 1) := by decide +kernel
theorem d_Top_changeNeighbours_35 : decode b_Top_changeNeighbours 35 = .ok (.invokevirtual 247, 3) := by decide +kernel
theorem d_Top_changeNeighbours_38 : decode b_Top_changeNeighbours 38 = .ok (.aload_n 0, 1) := by decide +kernel
theorem d_Top_changeNeighbours_39 : decode b_Top_changeNeighbours 39 = .ok (.getfield 80, 3) := by decide +kernel
theorem d_Top_changeNeighbours_42 : decode b_Top_changeNeighbours 42 = .ok (.iload_n 3, 1) := by decide +kernel
theorem d_Top_changeNeighbours_43 : decode b_Top_changeNeighbours 43 = .ok (.iconst 1, 1) := by decide +kernel
theorem d_Top_changeNeighbours_44 : decode b_Top_changeNeighbours 44 = .ok (.iadd, 1) := by decide +kernel
theorem d_Top_changeNeighbours_45 : decode b_Top_changeNeighbours 45 = .ok (.invokevirtual 247, 3) := by decide +kernel
theorem d_Top_changeNeighbours_48 : decode b_Top_changeNeighbours 48 = .ok (.if_icmp .ne 47, 3) := by decide +kernel
theorem d_Top_changeNeighbours_51 : decode b_Top_changeNeighbours 51 = .ok (.aload_n 0, 1) := by decide +kernel
theorem d_Top_changeNeighbours_52 : decode b_Top_changeNeighbours 52 = .ok (.getfield 80, 3) := by decide +kernel
theorem d_Top_changeNeighbours_55 : decode b_Top_changeNeighbours 55 = .ok (.iload_n 3, 1) := by decide +kernel
theorem d_Top_changeNeighbours_56 : decode b_Top_changeNeighbours 56 = .ok (.invokevirtual 262, 3) := by decide +kernel
theorem d_Top_changeNeighbours_59 : decode b_Top_changeNeighbours 59 = .ok (.aload_n 0, 1) := by decide +kernel
theorem d_Top_changeNeighbours_60 : decode b_Top_changeNeighbours 60 = .ok (.getfield 61, 3) := by decide +kernel
theorem d_Top_changeNeighbours_63 : decode b_Top_changeNeighbours 63 = .ok (.aload_n 0, 1) := by decide +kernel
theorem d_Top_changeNeighbours_64 : decode b_Top_changeNeighbours 64 = .ok (.getfield 80, 3) := by decide +kernel
theorem d_Top_changeNeighbours_67 : decode b_Top_changeNeighbours 67 = .ok (.iconst 0, 1) := by decide +kernel
theorem d_Top_changeNeighbours_68 : decode b_Top_changeNeighbours 68 = .ok (.invokevirtual 176, 3) := by decide +kernel
theorem d_Top_changeNeighbours_71 : decode b_Top_changeNeighbours 71 = .ok (.istore 4, 2) := by decide +kernel
theorem d_Top_changeNeighbours_73 : decode b_Top_changeNeighbours 73 = .ok (.iload 4, 2) := by decide +kernel
theorem d_Top_changeNeighbours_75 : decode b_Top_changeNeighbours 75 = .ok (.iload_n 2, 1) := by decide +kernel
theorem d_Top_changeNeighbours_76 : decode b_Top_changeNeighbours 76 = .ok (.if_icmp .ge 11, 3) := by decide +kernel
theorem d_Top_changeNeighbours_79 : decode b_Top_changeNeighbours 79 = .ok (.iload 4, 2) := by decide +kernel
theorem d_Top_changeNeighbours_81 : decode b_Top_changeNeighbours 81 = .ok (.istore_n 2, 1) := by decide +kernel
theorem d_Top_changeNeighbours_82 : decode b_Top_changeNeighbours 82 = .ok (.iconst 1, 1) := by decide +kernel
theorem d_Top_changeNeighbours_83 : decode b_Top_changeNeighbours 83 = .ok (.istore_n 1, 1) := by decide +kernel
theorem d_Top_changeNeighbours_84 : decode b_Top_changeNeighbours 84 = .ok (.goto 11, 3) := by decide +kernel
theorem d_Top_changeNeighbours_87 : decode b_Top_changeNeighbours 87 = .ok (.aload_n 0, 1) := by decide +kernel
theorem d_Top_changeNeighbours_88 : decode b_Top_changeNeighbours 88 = .ok (.getfield 80, 3) := by decide +kernel
theorem d_Top_changeNeighbours_91 : decode b_Top_changeNeighbours 91 = .ok (.iload_n 3, 1) := by decide +kernel
theorem d_Top_changeNeighbours_92 : decode b_Top_changeNeighbours 92 = .ok (.invokevirtual 262, 3) := by decide +kernel
theorem d_Top_changeNeighbours_95 : decode b_Top_changeNeighbours 95 = .ok (.iinc 3 1, 3) := by decide +kernel
theorem d_Top_changeNeighbours_98 : decode b_Top_changeNeighbours 98 = .ok (.goto (-81), 3) := by decide +kernel
theorem d_Top_changeNeighbours_101 : decode b_Top_changeNeighbours 101 = .ok (.iload_n 1, 1) := by decide +kernel
theorem d_Top_changeNeighbours_102 : decode b_Top_changeNeighbours 102 = .ok (.ireturn, 1) := by decide +kernel
theorem d_Top_nearest_0 : decode b_Top_nearest 0 = .ok (.iload_n 1, 1) := by decide +kernel
theorem d_Top_nearest_1 : decode b_Top_nearest 1 = .ok (.iload_n 2, 1) := by decide +kernel
theorem d_Top_nearest_2 : decode b_Top_nearest 2 = .ok (.iload_n 0, 1) := by decide +kernel
theorem d_Top_nearest_3 : decode b_Top_nearest 3 = .ok (.invokestatic 265, 3) := by decide +kernel
theorem d_Top_nearest_6 : decode b_Top_nearest 6 = .ok (.invokestatic 270, 3) := by decide +kernel
theorem d_Top_nearest_9 : decode b_Top_nearest 9 = .ok (.ireturn, 1) := by decide +kernel
theorem d_Top_isWithin_0 : decode b_Top_isWithin 0 = .ok (.iload_n 0, 1) := by decide +kernel
theorem d_Top_isWithin_1 : decode b_Top_isWithin 1 = .ok (.iload_n 1, 1) := by decide +kernel
theorem d_Top_isWithin_2 : decode b_Top_isWithin 2 = .ok (.if_icmp .lt 12, 3) := by decide +kernel
theorem d_Top_isWithin_5 : decode b_Top_isWithin 5 = .ok (.iload_n 0, 1) := by decide +kernel
theorem d_Top_isWithin_6 : decode b_Top_isWithin 6 = .ok (.iload_n 2, 1) := by decide +kernel
theorem d_Top_isWithin_7 : decode b_Top_isWithin 7 = .ok (.if_icmp .gt 7, 3) := by decide +kernel
theorem d_Top_isWithin_10 : decode b_Top_isWithin 10 = .ok (.iconst 1, 1) := by decide +kernel
theorem d_Top_isWithin_11 : decode b_Top_isWithin 11 = .ok (.goto 4, 3) := by decide +kernel
theorem d_Top_isWithin_14 : decode b_Top_isWithin 14 = .ok (.iconst 0, 1) := by decide +kernel
theorem d_Top_isWithin_15 : decode b_Top_isWithin 15 = .ok (.ireturn, 1) := by decide +kernel
theorem d_Top_isPlace_0 : decode b_Top_isPlace 0 = .ok (.iload_n 0, 1) := by decide +kernel
theorem d_Top_isPlace_1 : decode b_Top_isPlace 1 = .ok (.bipush (-8), 2) := by decide +kernel
theorem d_Top_isPlace_3 : decode b_Top_isPlace 3 = .ok (.bipush 31, 2) := by decide +kernel
theorem d_Top_isPlace_5 : decode b_Top_isPlace 5 = .ok (.invokestatic 90, 3) := by decide +kernel
theorem d_Top_isPlace_8 : decode b_Top_isPlace 8 = .ok (.ireturn, 1) := by decide +kernel
theorem d_Top_withBit_0 : decode b_Top_withBit 0 = .ok (.iload_n 3, 1) := by decide +kernel
theorem d_Top_withBit_1 : decode b_Top_withBit 1 = .ok (.ifCond .eq 11, 3) := by decide +kernel
theorem d_Top_withBit_4 : decode b_Top_withBit 4 = .ok (.lload_n 0, 1) := by decide +kernel
theorem d_Top_withBit_5 : decode b_Top_withBit 5 = .ok (.lconst 1, 1) := by decide +kernel
theorem d_Top_withBit_6 : decode b_Top_withBit 6 = .ok (.iload_n 2, 1) := by decide +kernel
theorem d_Top_withBit_7 : decode b_Top_withBit 7 = .ok (.lshl, 1) := by decide +kernel
theorem d_Top_withBit_8 : decode b_Top_withBit 8 = .ok (.lor, 1) := by decide +kernel
theorem d_Top_withBit_9 : decode b_Top_withBit 9 = .ok (.goto 12, 3) := by decide +kernel
theorem d_Top_withBit_12 : decode b_Top_withBit 12 = .ok (.lload_n 0, 1) := by decide +kernel
theorem d_Top_withBit_13 : decode b_Top_withBit 13 = .ok (.lconst 1, 1) := by decide +kernel
theorem d_Top_withBit_14 : decode b_Top_withBit 14 = .ok (.iload_n 2, 1) := by decide +kernel
theorem d_Top_withBit_15 : decode b_Top_withBit 15 = .ok (.lshl, 1) := by decide +kernel
theorem d_Top_withBit_16 : decode b_Top_withBit 16 = .ok (.ldc2_w 273, 3) := by decide +kernel
theorem d_Top_withBit_19 : decode b_Top_withBit 19 = .ok (.lxor, 1) := by decide +kernel
theorem d_Top_withBit_20 : decode b_Top_withBit 20 = .ok (.land, 1) := by decide +kernel
theorem d_Top_withBit_21 : decode b_Top_withBit 21 = .ok (.lreturn, 1) := by decide +kernel
theorem d_Top_hasBit_0 : decode b_Top_hasBit 0 = .ok (.lload_n 0, 1) := by decide +kernel
theorem d_Top_hasBit_1 : decode b_Top_hasBit 1 = .ok (.iload_n 2, 1) := by decide +kernel
theorem d_Top_hasBit_2 : decode b_Top_hasBit 2 = .ok (.lushr, 1) := by decide +kernel
theorem d_Top_hasBit_3 : decode b_Top_hasBit 3 = .ok (.lconst 1, 1) := by decide +kernel
theorem d_Top_hasBit_4 : decode b_Top_hasBit 4 = .ok (.land, 1) := by decide +kernel
theorem d_Top_hasBit_5 : decode b_Top_hasBit 5 = .ok (.lconst 0, 1) := by decide +kernel
theorem d_Top_hasBit_6 : decode b_Top_hasBit 6 = .ok (.lcmp, 1) := by decide +kernel
theorem d_Top_hasBit_7 : decode b_Top_hasBit 7 = .ok (.ifCond .eq 7, 3) := by decide +kernel
theorem d_Top_hasBit_10 : decode b_Top_hasBit 10 = .ok (.iconst 1, 1) := by decide +kernel
theorem d_Top_hasBit_11 : decode b_Top_hasBit 11 = .ok (.goto 4, 3) := by decide +kernel
theorem d_Top_hasBit_14 : decode b_Top_hasBit 14 = .ok (.iconst 0, 1) := by decide +kernel
theorem d_Top_hasBit_15 : decode b_Top_hasBit 15 = .ok (.ireturn, 1) := by decide +kernel
theorem d_BitReader_init_0 : decode b_BitReader_init 0 = .ok (.aload_n 0, 1) := by decide +kernel
theorem d_BitReader_init_1 : decode b_BitReader_init 1 = .ok (.invokespecial 3, 3) := by decide +kernel
theorem d_BitReader_init_4 : decode b_BitReader_init 4 = .ok (.aload_n 0, 1) := by decide +kernel
theorem d_BitReader_init_5 : decode b_BitReader_init 5 = .ok (.iconst 0, 1) := by decide +kernel
theorem d_BitReader_init_6 : decode b_BitReader_init 6 = .ok (.putfield 9, 3) := by decide +kernel
theorem d_BitReader_init_9 : decode b_BitReader_init 9 = .ok (.aload_n 0, 1) := by decide +kernel
theorem d_BitReader_init_10 : decode b_BitReader_init 10 = .ok (.iconst 0, 1) := by decide +kernel
theorem d_BitReader_init_11 : decode b_BitReader_init 11 = .ok (.putfield 15, 3) := by decide +kernel
theorem d_BitReader_init_14 : decode b_BitReader_init 14 = .ok (.aload_n 0, 1) := by decide +kernel
theorem d_BitReader_init_15 : decode b_BitReader_init 15 = .ok (.aload_n 1, 1) := by decide +kernel
theorem d_BitReader_init_16 : decode b_BitReader_init 16 = .ok (.putfield 18, 3) := by decide +kernel
theorem d_BitReader_init_19 : decode b_BitReader_init 19 = .ok (.return_, 1) := by decide +kernel
theorem d_BitReader_start_0 : decode b_BitReader_start 0 = .ok (.aload_n 0, 1) := by decide +kernel
theorem d_BitReader_start_1 : decode b_BitReader_start 1 = .ok (.iconst 0, 1) := by decide +kernel
theorem d_BitReader_start_2 : decode b_BitReader_start 2 = .ok (.putfield 9, 3) := by decide +kernel
theorem d_BitReader_start_5 : decode b_BitReader_start 5 = .ok (.aload_n 0, 1) := by decide +kernel
theorem d_BitReader_start_6 : decode b_BitReader_start 6 = .ok (.iconst 0, 1) := by decide +kernel
theorem d_BitReader_start_7 : decode b_BitReader_start 7 = .ok (.putfield 15, 3) := by decide +kernel
theorem d_BitReader_start_10 : decode b_BitReader_start 10 = .ok (.return_, 1) := by decide +kernel
theorem d_BitReader_refuse_0 : decode b_BitReader_refuse 0 = .ok (.aload_n 0, 1) := by decide +kernel
theorem d_BitReader_refuse_1 : decode b_BitReader_refuse 1 = .ok (.getfield 15, 3) := by decide +kernel
theorem d_BitReader_refuse_4 : decode b_BitReader_refuse 4 = .ok (.ifCond .ne 8, 3) := by decide +kernel
theorem d_BitReader_refuse_7 : decode b_BitReader_refuse 7 = .ok (.aload_n 0, 1) := by decide +kernel
theorem d_BitReader_refuse_8 : decode b_BitReader_refuse 8 = .ok (.iload_n 1, 1) := by decide +kernel
theorem d_BitReader_refuse_9 : decode b_BitReader_refuse 9 = .ok (.putfield 15, 3) := by decide +kernel
theorem d_BitReader_refuse_12 : decode b_BitReader_refuse 12 = .ok (.return_, 1) := by decide +kernel
theorem d_BitReader_isRefused_0 : decode b_BitReader_isRefused 0 = .ok (.aload_n 0, 1) := by decide +kernel
theorem d_BitReader_isRefused_1 : decode b_BitReader_isRefused 1 = .ok (.getfield 15, 3) := by decide +kernel
theorem d_BitReader_isRefused_4 : decode b_BitReader_isRefused 4 = .ok (.ifCond .eq 7, 3) := by decide +kernel
theorem d_BitReader_isRefused_7 : decode b_BitReader_isRefused 7 = .ok (.iconst 1, 1) := by decide +kernel
theorem d_BitReader_isRefused_8 : decode b_BitReader_isRefused 8 = .ok (.goto 4, 3) := by decide +kernel
theorem d_BitReader_isRefused_11 : decode b_BitReader_isRefused 11 = .ok (.iconst 0, 1) := by decide +kernel
theorem d_BitReader_isRefused_12 : decode b_BitReader_isRefused 12 = .ok (.ireturn, 1) := by decide +kernel
theorem d_BitReader_nextBit_0 : decode b_BitReader_nextBit 0 = .ok (.aload_n 0, 1) := by decide +kernel
theorem d_BitReader_nextBit_1 : decode b_BitReader_nextBit 1 = .ok (.getfield 15, 3) := by decide +kernel
theorem d_BitReader_nextBit_4 : decode b_BitReader_nextBit 4 = .ok (.ifCond .eq 5, 3) := by decide +kernel
theorem d_BitReader_nextBit_7 : decode b_BitReader_nextBit 7 = .ok (.iconst 0, 1) := by decide +kernel
theorem d_BitReader_nextBit_8 : decode b_BitReader_nextBit 8 = .ok (.ireturn, 1) := by decide +kernel
theorem d_BitReader_nextBit_9 : decode b_BitReader_nextBit 9 = .ok (.aload_n 0, 1) := by decide +kernel
theorem d_BitReader_nextBit_10 : decode b_BitReader_nextBit 10 = .ok (.getfield 9, 3) := by decide +kernel
theorem d_BitReader_nextBit_13 : decode b_BitReader_nextBit 13 = .ok (.bipush 8, 2) := by decide +kernel
theorem d_BitReader_nextBit_15 : decode b_BitReader_nextBit 15 = .ok (.idiv, 1) := by decide +kernel
theorem d_BitReader_nextBit_16 : decode b_BitReader_nextBit 16 = .ok (.aload_n 0, 1) := by decide +kernel
theorem d_BitReader_nextBit_17 : decode b_BitReader_nextBit 17 = .ok (.getfield 18, 3) := by decide +kernel
theorem d_BitReader_nextBit_20 : decode b_BitReader_nextBit 20 = .ok (.getfield 22, 3) := by decide +kernel
theorem d_BitReader_nextBit_23 : decode b_BitReader_nextBit 23 = .ok (.if_icmp .lt 10, 3) := by decide +kernel
theorem d_BitReader_nextBit_26 : decode b_BitReader_nextBit 26 = .ok (.aload_n 0, 1) := by decide +kernel
theorem d_BitReader_nextBit_27 : decode b_BitReader_nextBit 27 = .ok (.iconst 1, 1) := by decide +kernel
theorem d_BitReader_nextBit_28 : decode b_BitReader_nextBit 28 = .ok (.putfield 15, 3) := by decide +kernel
theorem d_BitReader_nextBit_31 : decode b_BitReader_nextBit 31 = .ok (.iconst 0, 1) := by decide +kernel
theorem d_BitReader_nextBit_32 : decode b_BitReader_nextBit 32 = .ok (.ireturn, 1) := by decide +kernel
theorem d_BitReader_nextBit_33 : decode b_BitReader_nextBit 33 = .ok (.aload_n 0, 1) := by decide +kernel
theorem d_BitReader_nextBit_34 : decode b_BitReader_nextBit 34 = .ok (.getfield 18, 3) := by decide +kernel
theorem d_BitReader_nextBit_37 : decode b_BitReader_nextBit 37 = .ok (.getfield 27, 3) := by decide +kernel
theorem d_BitReader_nextBit_40 : decode b_BitReader_nextBit 40 = .ok (.aload_n 0, 1) := by decide +kernel
theorem d_BitReader_nextBit_41 : decode b_BitReader_nextBit 41 = .ok (.getfield 9, 3) := by decide +kernel
theorem d_BitReader_nextBit_44 : decode b_BitReader_nextBit 44 = .ok (.bipush 8, 2) := by decide +kernel
theorem d_BitReader_nextBit_46 : decode b_BitReader_nextBit 46 = .ok (.idiv, 1) := by decide +kernel
theorem d_BitReader_nextBit_47 : decode b_BitReader_nextBit 47 = .ok (.iaload, 1) := by decide +kernel
theorem d_BitReader_nextBit_48 : decode b_BitReader_nextBit 48 = .ok (.bipush 7, 2) := by decide +kernel
theorem d_BitReader_nextBit_50 : decode b_BitReader_nextBit 50 = .ok (.aload_n 0, 1) := by decide +kernel
theorem d_BitReader_nextBit_51 : decode b_BitReader_nextBit 51 = .ok (.getfield 9, 3) := by decide +kernel
theorem d_BitReader_nextBit_54 : decode b_BitReader_nextBit 54 = .ok (.bipush 8, 2) := by decide +kernel
theorem d_BitReader_nextBit_56 : decode b_BitReader_nextBit 56 = .ok (.irem, 1) := by decide +kernel
theorem d_BitReader_nextBit_57 : decode b_BitReader_nextBit 57 = .ok (.isub, 1) := by decide +kernel
theorem d_BitReader_nextBit_58 : decode b_BitReader_nextBit 58 = .ok (.ishr, 1) := by decide +kernel
theorem d_BitReader_nextBit_59 : decode b_BitReader_nextBit 59 = .ok (.iconst 1, 1) := by decide +kernel
theorem d_BitReader_nextBit_60 : decode b_BitReader_nextBit 60 = .ok (.iand, 1) := by decide +kernel
theorem d_BitReader_nextBit_61 : decode b_BitReader_nextBit 61 = .ok (.istore_n 1, 1) := by decide +kernel
theorem d_BitReader_nextBit_62 : decode b_BitReader_nextBit 62 = .ok (.aload_n 0, 1) := by decide +kernel
theorem d_BitReader_nextBit_63 : decode b_BitReader_nextBit 63 = .ok (.dup, 1) := by decide +kernel
theorem d_BitReader_nextBit_64 : decode b_BitReader_nextBit 64 = .ok (.getfield 9, 3) := by decide +kernel
theorem d_BitReader_nextBit_67 : decode b_BitReader_nextBit 67 = .ok (.iconst 1, 1) := by decide +kernel
theorem d_BitReader_nextBit_68 : decode b_BitReader_nextBit 68 = .ok (.iadd, 1) := by decide +kernel
theorem d_BitReader_nextBit_69 : decode b_BitReader_nextBit 69 = .ok (.putfield 9, 3) := by decide +kernel
theorem d_BitReader_nextBit_72 : decode b_BitReader_nextBit 72 = .ok (.iload_n 1, 1) := by decide +kernel
theorem d_BitReader_nextBit_73 : decode b_BitReader_nextBit 73 = .ok (.ireturn, 1) := by decide +kernel
theorem d_BitReader_nextBits_0 : decode b_BitReader_nextBits 0 = .ok (.iconst 0, 1) := by decide +kernel
theorem d_BitReader_nextBits_1 : decode b_BitReader_nextBits 1 = .ok (.istore_n 2, 1) := by decide +kernel
theorem d_BitReader_nextBits_2 : decode b_BitReader_nextBits 2 = .ok (.iconst 0, 1) := by decide +kernel
theorem d_BitReader_nextBits_3 : decode b_BitReader_nextBits 3 = .ok (.istore_n 3, 1) := by decide +kernel
theorem d_BitReader_nextBits_4 : decode b_BitReader_nextBits 4 = .ok (.iload_n 3, 1) := by decide +kernel
theorem d_BitReader_nextBits_5 : decode b_BitReader_nextBits 5 = .ok (.iload_n 1, 1) := by decide +kernel
theorem d_BitReader_nextBits_6 : decode b_BitReader_nextBits 6 = .ok (.if_icmp .ge 18, 3) := by decide +kernel
theorem d_BitReader_nextBits_9 : decode b_BitReader_nextBits 9 = .ok (.iload_n 2, 1) := by decide +kernel
theorem d_BitReader_nextBits_10 : decode b_BitReader_nextBits 10 = .ok (.iconst 1, 1) := by decide +kernel
theorem d_BitReader_nextBits_11 : decode b_BitReader_nextBits 11 = .ok (.ishl, 1) := by decide +kernel
theorem d_BitReader_nextBits_12 : decode b_BitReader_nextBits 12 = .ok (.aload_n 0, 1) := by decide +kernel
theorem d_BitReader_nextBits_13 : decode b_BitReader_nextBits 13 = .ok (.invokevirtual 31, 3) := by decide +kernel
theorem d_BitReader_nextBits_16 : decode b_BitReader_nextBits 16 = .ok (.ior, 1) := by decide +kernel
theorem d_BitReader_nextBits_17 : decode b_BitReader_nextBits 17 = .ok (.istore_n 2, 1) := by decide +kernel
theorem d_BitReader_nextBits_18 : decode b_BitReader_nextBits 18 = .ok (.iinc 3 1, 3) := by decide +kernel
theorem d_BitReader_nextBits_21 : decode b_BitReader_nextBits 21 = .ok (.goto (-17), 3) := by decide +kernel
theorem d_BitReader_nextBits_24 : decode b_BitReader_nextBits 24 = .ok (.iload_n 2, 1) := by decide +kernel
theorem d_BitReader_nextBits_25 : decode b_BitReader_nextBits 25 = .ok (.ireturn, 1) := by decide +kernel
theorem d_BitReader_nextNumber_0 : decode b_BitReader_nextNumber 0 = .ok (.iconst 0, 1) := by decide +kernel
theorem d_BitReader_nextNumber_1 : decode b_BitReader_nextNumber 1 = .ok (.istore_n 1, 1) := by decide +kernel
theorem d_BitReader_nextNumber_2 : decode b_BitReader_nextNumber 2 = .ok (.iload_n 1, 1) := by decide +kernel
theorem d_BitReader_nextNumber_3 : decode b_BitReader_nextNumber 3 = .ok (.bipush 12, 2) := by decide +kernel
theorem d_BitReader_nextNumber_5 : decode b_BitReader_nextNumber 5 = .ok (.if_icmp .gt 16, 3) := by decide +kernel
theorem d_BitReader_nextNumber_8 : decode b_BitReader_nextNumber 8 = .ok (.aload_n 0, 1) := by decide +kernel
theorem d_BitReader_nextNumber_9 : decode b_BitReader_nextNumber 9 = .ok (.invokevirtual 31, 3) := by decide +kernel
theorem d_BitReader_nextNumber_12 : decode b_BitReader_nextNumber 12 = .ok (.ifCond .ne 9, 3) := by decide +kernel
theorem d_BitReader_nextNumber_15 : decode b_BitReader_nextNumber 15 = .ok (.iinc 1 1, 3) := by decide +kernel
theorem d_BitReader_nextNumber_18 : decode b_BitReader_nextNumber 18 = .ok (.goto (-16), 3) := by decide +kernel
theorem d_BitReader_nextNumber_21 : decode b_BitReader_nextNumber 21 = .ok (.iload_n 1, 1) := by decide +kernel
theorem d_BitReader_nextNumber_22 : decode b_BitReader_nextNumber 22 = .ok (.bipush 12, 2) := by decide +kernel
theorem d_BitReader_nextNumber_24 : decode b_BitReader_nextNumber 24 = .ok (.if_icmp .le 11, 3) := by decide +kernel
theorem d_BitReader_nextNumber_27 : decode b_BitReader_nextNumber 27 = .ok (.aload_n 0, 1) := by decide +kernel
theorem d_BitReader_nextNumber_28 : decode b_BitReader_nextNumber 28 = .ok (.bipush 8, 2) := by decide +kernel
theorem d_BitReader_nextNumber_30 : decode b_BitReader_nextNumber 30 = .ok (.invokevirtual 35, 3) := by decide +kernel
theorem d_BitReader_nextNumber_33 : decode b_BitReader_nextNumber 33 = .ok (.iconst 0, 1) := by decide +kernel
theorem d_BitReader_nextNumber_34 : decode b_BitReader_nextNumber 34 = .ok (.ireturn, 1) := by decide +kernel
theorem d_BitReader_nextNumber_35 : decode b_BitReader_nextNumber 35 = .ok (.iconst 1, 1) := by decide +kernel
theorem d_BitReader_nextNumber_36 : decode b_BitReader_nextNumber 36 = .ok (.istore_n 2, 1) := by decide +kernel
theorem d_BitReader_nextNumber_37 : decode b_BitReader_nextNumber 37 = .ok (.iconst 0, 1) := by decide +kernel
theorem d_BitReader_nextNumber_38 : decode b_BitReader_nextNumber 38 = .ok (.istore_n 3, 1) := by decide +kernel
theorem d_BitReader_nextNumber_39 : decode b_BitReader_nextNumber 39 = .ok (.iload_n 3, 1) := by decide +kernel
theorem d_BitReader_nextNumber_40 : decode b_BitReader_nextNumber 40 = .ok (.iload_n 1, 1) := by decide +kernel
theorem d_BitReader_nextNumber_41 : decode b_BitReader_nextNumber 41 = .ok (.if_icmp .ge 18, 3) := by decide +kernel
theorem d_BitReader_nextNumber_44 : decode b_BitReader_nextNumber 44 = .ok (.iload_n 2, 1) := by decide +kernel
theorem d_BitReader_nextNumber_45 : decode b_BitReader_nextNumber 45 = .ok (.iconst 1, 1) := by decide +kernel
theorem d_BitReader_nextNumber_46 : decode b_BitReader_nextNumber 46 = .ok (.ishl, 1) := by decide +kernel
theorem d_BitReader_nextNumber_47 : decode b_BitReader_nextNumber 47 = .ok (.aload_n 0, 1) := by decide +kernel
theorem d_BitReader_nextNumber_48 : decode b_BitReader_nextNumber 48 = .ok (.invokevirtual 31, 3) := by decide +kernel
theorem d_BitReader_nextNumber_51 : decode b_BitReader_nextNumber 51 = .ok (.ior, 1) := by decide +kernel
theorem d_BitReader_nextNumber_52 : decode b_BitReader_nextNumber 52 = .ok (.istore_n 2, 1) := by decide +kernel
theorem d_BitReader_nextNumber_53 : decode b_BitReader_nextNumber 53 = .ok (.iinc 3 1, 3) := by decide +kernel
theorem d_BitReader_nextNumber_56 : decode b_BitReader_nextNumber 56 = .ok (.goto (-17), 3) := by decide +kernel
theorem d_BitReader_nextNumber_59 : decode b_BitReader_nextNumber 59 = .ok (.iload_n 2, 1) := by decide +kernel
theorem d_BitReader_nextNumber_60 : decode b_BitReader_nextNumber 60 = .ok (.iconst 1, 1) := by decide +kernel
theorem d_BitReader_nextNumber_61 : decode b_BitReader_nextNumber 61 = .ok (.isub, 1) := by decide +kernel
theorem d_BitReader_nextNumber_62 : decode b_BitReader_nextNumber 62 = .ok (.ireturn, 1) := by decide +kernel
theorem d_BitReader_nextSigned_0 : decode b_BitReader_nextSigned 0 = .ok (.aload_n 0, 1) := by decide +kernel
theorem d_BitReader_nextSigned_1 : decode b_BitReader_nextSigned 1 = .ok (.invokevirtual 39, 3) := by decide +kernel
theorem d_BitReader_nextSigned_4 : decode b_BitReader_nextSigned 4 = .ok (.istore_n 1, 1) := by decide +kernel
theorem d_BitReader_nextSigned_5 : decode b_BitReader_nextSigned 5 = .ok (.iload_n 1, 1) := by decide +kernel
theorem d_BitReader_nextSigned_6 : decode b_BitReader_nextSigned 6 = .ok (.iconst 2, 1) := by decide +kernel
theorem d_BitReader_nextSigned_7 : decode b_BitReader_nextSigned 7 = .ok (.irem, 1) := by decide +kernel
theorem d_BitReader_nextSigned_8 : decode b_BitReader_nextSigned 8 = .ok (.ifCond .ne 9, 3) := by decide +kernel
theorem d_BitReader_nextSigned_11 : decode b_BitReader_nextSigned 11 = .ok (.iload_n 1, 1) := by decide +kernel
theorem d_BitReader_nextSigned_12 : decode b_BitReader_nextSigned 12 = .ok (.iconst 2, 1) := by decide +kernel
theorem d_BitReader_nextSigned_13 : decode b_BitReader_nextSigned 13 = .ok (.idiv, 1) := by decide +kernel
theorem d_BitReader_nextSigned_14 : decode b_BitReader_nextSigned 14 = .ok (.goto 9, 3) := by decide +kernel
theorem d_BitReader_nextSigned_17 : decode b_BitReader_nextSigned 17 = .ok (.iload_n 1, 1) := by decide +kernel
theorem d_BitReader_nextSigned_18 : decode b_BitReader_nextSigned 18 = .ok (.iconst 2, 1) := by decide +kernel
theorem d_BitReader_nextSigned_19 : decode b_BitReader_nextSigned 19 = .ok (.idiv, 1) := by decide +kernel
theorem d_BitReader_nextSigned_20 : decode b_BitReader_nextSigned 20 = .ok (.ineg, 1) := by decide +kernel
theorem d_BitReader_nextSigned_21 : decode b_BitReader_nextSigned 21 = .ok (.iconst 1, 1) := by decide +kernel
theorem d_BitReader_nextSigned_22 : decode b_BitReader_nextSigned 22 = .ok (.isub, 1) := by decide +kernel
theorem d_BitReader_nextSigned_23 : decode b_BitReader_nextSigned 23 = .ok (.ireturn, 1) := by decide +kernel
theorem d_BitReader_readEnd_0 : decode b_BitReader_readEnd 0 = .ok (.iconst 0, 1) := by decide +kernel
theorem d_BitReader_readEnd_1 : decode b_BitReader_readEnd 1 = .ok (.istore_n 1, 1) := by decide +kernel
theorem d_BitReader_readEnd_2 : decode b_BitReader_readEnd 2 = .ok (.iload_n 1, 1) := by decide +kernel
theorem d_BitReader_readEnd_3 : decode b_BitReader_readEnd 3 = .ok (.bipush 8, 2) := by decide +kernel
theorem d_BitReader_readEnd_5 : decode b_BitReader_readEnd 5 = .ok (.if_icmp .ge 33, 3) := by decide +kernel
theorem d_BitReader_readEnd_8 : decode b_BitReader_readEnd 8 = .ok (.aload_n 0, 1) := by decide +kernel
theorem d_BitReader_readEnd_9 : decode b_BitReader_readEnd 9 = .ok (.getfield 9, 3) := by decide +kernel
theorem d_BitReader_readEnd_12 : decode b_BitReader_readEnd 12 = .ok (.bipush 8, 2) := by decide +kernel
theorem d_BitReader_readEnd_14 : decode b_BitReader_readEnd 14 = .ok (.irem, 1) := by decide +kernel
theorem d_BitReader_readEnd_15 : decode b_BitReader_readEnd 15 = .ok (.ifCond .eq 23, 3) := by decide +kernel
theorem d_BitReader_readEnd_18 : decode b_BitReader_readEnd 18 = .ok (.aload_n 0, 1) := by decide +kernel
theorem d_BitReader_readEnd_19 : decode b_BitReader_readEnd 19 = .ok (.invokevirtual 31, 3) := by decide +kernel
theorem d_BitReader_readEnd_22 : decode b_BitReader_readEnd 22 = .ok (.iconst 1, 1) := by decide +kernel
theorem d_BitReader_readEnd_23 : decode b_BitReader_readEnd 23 = .ok (.if_icmp .ne 9, 3) := by decide +kernel
theorem d_BitReader_readEnd_26 : decode b_BitReader_readEnd 26 = .ok (.aload_n 0, 1) := by decide +kernel
theorem d_BitReader_readEnd_27 : decode b_BitReader_readEnd 27 = .ok (.bipush 9, 2) := by decide +kernel
theorem d_BitReader_readEnd_29 : decode b_BitReader_readEnd 29 = .ok (.invokevirtual 35, 3) := by decide +kernel
theorem d_BitReader_readEnd_32 : decode b_BitReader_readEnd 32 = .ok (.iinc 1 1, 3) := by decide +kernel
theorem d_BitReader_readEnd_35 : decode b_BitReader_readEnd 35 = .ok (.goto (-33), 3) := by decide +kernel
theorem d_BitReader_readEnd_38 : decode b_BitReader_readEnd 38 = .ok (.aload_n 0, 1) := by decide +kernel
theorem d_BitReader_readEnd_39 : decode b_BitReader_readEnd 39 = .ok (.getfield 9, 3) := by decide +kernel
theorem d_BitReader_readEnd_42 : decode b_BitReader_readEnd 42 = .ok (.bipush 8, 2) := by decide +kernel
theorem d_BitReader_readEnd_44 : decode b_BitReader_readEnd 44 = .ok (.idiv, 1) := by decide +kernel
theorem d_BitReader_readEnd_45 : decode b_BitReader_readEnd 45 = .ok (.aload_n 0, 1) := by decide +kernel
theorem d_BitReader_readEnd_46 : decode b_BitReader_readEnd 46 = .ok (.getfield 18, 3) := by decide +kernel
theorem d_BitReader_readEnd_49 : decode b_BitReader_readEnd 49 = .ok (.getfield 22, 3) := by decide +kernel
theorem d_BitReader_readEnd_52 : decode b_BitReader_readEnd 52 = .ok (.if_icmp .ge 9, 3) := by decide +kernel
theorem d_BitReader_readEnd_55 : decode b_BitReader_readEnd 55 = .ok (.aload_n 0, 1) := by decide +kernel
theorem d_BitReader_readEnd_56 : decode b_BitReader_readEnd 56 = .ok (.bipush 9, 2) := by decide +kernel
theorem d_BitReader_readEnd_58 : decode b_BitReader_readEnd 58 = .ok (.invokevirtual 35, 3) := by decide +kernel
theorem d_BitReader_readEnd_61 : decode b_BitReader_readEnd 61 = .ok (.return_, 1) := by decide +kernel
theorem d_BitWriter_init_0 : decode b_BitWriter_init 0 = .ok (.aload_n 0, 1) := by decide +kernel
theorem d_BitWriter_init_1 : decode b_BitWriter_init 1 = .ok (.invokespecial 3, 3) := by decide +kernel
theorem d_BitWriter_init_4 : decode b_BitWriter_init 4 = .ok (.aload_n 0, 1) := by decide +kernel
theorem d_BitWriter_init_5 : decode b_BitWriter_init 5 = .ok (.iconst 0, 1) := by decide +kernel
theorem d_BitWriter_init_6 : decode b_BitWriter_init 6 = .ok (.putfield 9, 3) := by decide +kernel
theorem d_BitWriter_init_9 : decode b_BitWriter_init 9 = .ok (.aload_n 0, 1) := by decide +kernel
theorem d_BitWriter_init_10 : decode b_BitWriter_init 10 = .ok (.iconst 0, 1) := by decide +kernel
theorem d_BitWriter_init_11 : decode b_BitWriter_init 11 = .ok (.putfield 15, 3) := by decide +kernel
theorem d_BitWriter_init_14 : decode b_BitWriter_init 14 = .ok (.aload_n 0, 1) := by decide +kernel
theorem d_BitWriter_init_15 : decode b_BitWriter_init 15 = .ok (.aload_n 1, 1) := by decide +kernel
theorem d_BitWriter_init_16 : decode b_BitWriter_init 16 = .ok (.putfield 19, 3) := by decide +kernel
theorem d_BitWriter_init_19 : decode b_BitWriter_init 19 = .ok (.return_, 1) := by decide +kernel
theorem d_BitWriter_start_0 : decode b_BitWriter_start 0 = .ok (.aload_n 0, 1) := by decide +kernel
theorem d_BitWriter_start_1 : decode b_BitWriter_start 1 = .ok (.iload_n 1, 1) := by decide +kernel
theorem d_BitWriter_start_2 : decode b_BitWriter_start 2 = .ok (.putfield 9, 3) := by decide +kernel
theorem d_BitWriter_start_5 : decode b_BitWriter_start 5 = .ok (.aload_n 0, 1) := by decide +kernel
theorem d_BitWriter_start_6 : decode b_BitWriter_start 6 = .ok (.iconst 0, 1) := by decide +kernel
theorem d_BitWriter_start_7 : decode b_BitWriter_start 7 = .ok (.putfield 15, 3) := by decide +kernel
theorem d_BitWriter_start_10 : decode b_BitWriter_start 10 = .ok (.iload_n 1, 1) := by decide +kernel
theorem d_BitWriter_start_11 : decode b_BitWriter_start 11 = .ok (.ifCond .eq 11, 3) := by decide +kernel
theorem d_BitWriter_start_14 : decode b_BitWriter_start 14 = .ok (.aload_n 0, 1) := by decide +kernel
theorem d_BitWriter_start_15 : decode b_BitWriter_start 15 = .ok (.getfield 19, 3) := by decide +kernel
theorem d_BitWriter_start_18 : decode b_BitWriter_start 18 = .ok (.iconst 0, 1) := by decide +kernel
theorem d_BitWriter_start_19 : decode b_BitWriter_start 19 = .ok (.putfield 23, 3) := by decide +kernel
theorem d_BitWriter_start_22 : decode b_BitWriter_start 22 = .ok (.return_, 1) := by decide +kernel
theorem d_BitWriter_tellBits_0 : decode b_BitWriter_tellBits 0 = .ok (.aload_n 0, 1) := by decide +kernel
theorem d_BitWriter_tellBits_1 : decode b_BitWriter_tellBits 1 = .ok (.getfield 9, 3) := by decide +kernel
theorem d_BitWriter_tellBits_4 : decode b_BitWriter_tellBits 4 = .ok (.ifCond .ne 14, 3) := by decide +kernel
theorem d_BitWriter_tellBits_7 : decode b_BitWriter_tellBits 7 = .ok (.aload_n 0, 1) := by decide +kernel
theorem d_BitWriter_tellBits_8 : decode b_BitWriter_tellBits 8 = .ok (.dup, 1) := by decide +kernel
theorem d_BitWriter_tellBits_9 : decode b_BitWriter_tellBits 9 = .ok (.getfield 15, 3) := by decide +kernel
theorem d_BitWriter_tellBits_12 : decode b_BitWriter_tellBits 12 = .ok (.iload_n 2, 1) := by decide +kernel
theorem d_BitWriter_tellBits_13 : decode b_BitWriter_tellBits 13 = .ok (.iadd, 1) := by decide +kernel
theorem d_BitWriter_tellBits_14 : decode b_BitWriter_tellBits 14 = .ok (.putfield 15, 3) := by decide +kernel
theorem d_BitWriter_tellBits_17 : decode b_BitWriter_tellBits 17 = .ok (.return_, 1) := by decide +kernel
theorem d_BitWriter_tellBits_18 : decode b_BitWriter_tellBits 18 = .ok (.iload_n 2, 1) := by decide +kernel
theorem d_BitWriter_tellBits_19 : decode b_BitWriter_tellBits 19 = .ok (.iconst 1, 1) := by decide +kernel
theorem d_BitWriter_tellBits_20 : decode b_BitWriter_tellBits 20 = .ok (.isub, 1) := by decide +kernel
theorem d_BitWriter_tellBits_21 : decode b_BitWriter_tellBits 21 = .ok (.istore_n 3, 1) := by decide +kernel
theorem d_BitWriter_tellBits_22 : decode b_BitWriter_tellBits 22 = .ok (.iload_n 3, 1) := by decide +kernel
theorem d_BitWriter_tellBits_23 : decode b_BitWriter_tellBits 23 = .ok (.ifCond .lt 88, 3) := by decide +kernel
theorem d_BitWriter_tellBits_26 : decode b_BitWriter_tellBits 26 = .ok (.aload_n 0, 1) := by decide +kernel
theorem d_BitWriter_tellBits_27 : decode b_BitWriter_tellBits 27 = .ok (.getfield 15, 3) := by decide +kernel
theorem d_BitWriter_tellBits_30 : decode b_BitWriter_tellBits 30 = .ok (.bipush 8, 2) := by decide +kernel
theorem d_BitWriter_tellBits_32 : decode b_BitWriter_tellBits 32 = .ok (.irem, 1) := by decide +kernel
theorem d_BitWriter_tellBits_33 : decode b_BitWriter_tellBits 33 = .ok (.ifCond .ne 11, 3) := by decide +kernel
theorem d_BitWriter_tellBits_36 : decode b_BitWriter_tellBits 36 = .ok (.aload_n 0, 1) := by decide +kernel
theorem d_BitWriter_tellBits_37 : decode b_BitWriter_tellBits 37 = .ok (.getfield 19, 3) := by decide +kernel
theorem d_BitWriter_tellBits_40 : decode b_BitWriter_tellBits 40 = .ok (.iconst 0, 1) := by decide +kernel
theorem d_BitWriter_tellBits_41 : decode b_BitWriter_tellBits 41 = .ok (.invokevirtual 26, 3) := by decide +kernel
theorem d_BitWriter_tellBits_44 : decode b_BitWriter_tellBits 44 = .ok (.aload_n 0, 1) := by decide +kernel
theorem d_BitWriter_tellBits_45 : decode b_BitWriter_tellBits 45 = .ok (.getfield 15, 3) := by decide +kernel
theorem d_BitWriter_tellBits_48 : decode b_BitWriter_tellBits 48 = .ok (.bipush 8, 2) := by decide +kernel
theorem d_BitWriter_tellBits_50 : decode b_BitWriter_tellBits 50 = .ok (.idiv, 1) := by decide +kernel
theorem d_BitWriter_tellBits_51 : decode b_BitWriter_tellBits 51 = .ok (.aload_n 0, 1) := by decide +kernel
theorem d_BitWriter_tellBits_52 : decode b_BitWriter_tellBits 52 = .ok (.getfield 19, 3) := by decide +kernel
theorem d_BitWriter_tellBits_55 : decode b_BitWriter_tellBits 55 = .ok (.getfield 23, 3) := by decide +kernel
theorem d_BitWriter_tellBits_58 : decode b_BitWriter_tellBits 58 = .ok (.if_icmp .ge 37, 3) := by decide +kernel
theorem d_BitWriter_tellBits_61 : decode b_BitWriter_tellBits 61 = .ok (.aload_n 0, 1) := by decide +kernel
theorem d_BitWriter_tellBits_62 : decode b_BitWriter_tellBits 62 = .ok (.getfield 19, 3) := by decide +kernel
theorem d_BitWriter_tellBits_65 : decode b_BitWriter_tellBits 65 = .ok (.getfield 30, 3) := by decide +kernel
theorem d_BitWriter_tellBits_68 : decode b_BitWriter_tellBits 68 = .ok (.aload_n 0, 1) := by decide +kernel
theorem d_BitWriter_tellBits_69 : decode b_BitWriter_tellBits 69 = .ok (.getfield 15, 3) := by decide +kernel
theorem d_BitWriter_tellBits_72 : decode b_BitWriter_tellBits 72 = .ok (.bipush 8, 2) := by decide +kernel
theorem d_BitWriter_tellBits_74 : decode b_BitWriter_tellBits 74 = .ok (.idiv, 1) := by decide +kernel
theorem d_BitWriter_tellBits_75 : decode b_BitWriter_tellBits 75 = .ok (.dup2, 1) := by decide +kernel
theorem d_BitWriter_tellBits_76 : decode b_BitWriter_tellBits 76 = .ok (.iaload, 1) := by decide +kernel
theorem d_BitWriter_tellBits_77 : decode b_BitWriter_tellBits 77 = .ok (.iload_n 1, 1) := by decide +kernel
theorem d_BitWriter_tellBits_78 : decode b_BitWriter_tellBits 78 = .ok (.iload_n 3, 1) := by decide +kernel
theorem d_BitWriter_tellBits_79 : decode b_BitWriter_tellBits 79 = .ok (.ishr, 1) := by decide +kernel
theorem d_BitWriter_tellBits_80 : decode b_BitWriter_tellBits 80 = .ok (.iconst 1, 1) := by decide +kernel
theorem d_BitWriter_tellBits_81 : decode b_BitWriter_tellBits 81 = .ok (.iand, 1) := by decide +kernel
theorem d_BitWriter_tellBits_82 : decode b_BitWriter_tellBits 82 = .ok (.bipush 7, 2) := by decide +kernel
theorem d_BitWriter_tellBits_84 : decode b_BitWriter_tellBits 84 = .ok (.aload_n 0, 1) := by decide +kernel
theorem d_BitWriter_tellBits_85 : decode b_BitWriter_tellBits 85 = .ok (.getfield 15, 3) := by decide +kernel
theorem d_BitWriter_tellBits_88 : decode b_BitWriter_tellBits 88 = .ok (.bipush 8, 2) := by decide +kernel
theorem d_BitWriter_tellBits_90 : decode b_BitWriter_tellBits 90 = .ok (.irem, 1) := by decide +kernel
theorem d_BitWriter_tellBits_91 : decode b_BitWriter_tellBits 91 = .ok (.isub, 1) := by decide +kernel
theorem d_BitWriter_tellBits_92 : decode b_BitWriter_tellBits 92 = .ok (.ishl, 1) := by decide +kernel
theorem d_BitWriter_tellBits_93 : decode b_BitWriter_tellBits 93 = .ok (.ior, 1) := by decide +kernel
theorem d_BitWriter_tellBits_94 : decode b_BitWriter_tellBits 94 = .ok (.iastore, 1) := by decide +kernel
theorem d_BitWriter_tellBits_95 : decode b_BitWriter_tellBits 95 = .ok (.aload_n 0, 1) := by decide +kernel
theorem d_BitWriter_tellBits_96 : decode b_BitWriter_tellBits 96 = .ok (.dup, 1) := by decide +kernel
theorem d_BitWriter_tellBits_97 : decode b_BitWriter_tellBits 97 = .ok (.getfield 15, 3) := by decide +kernel
theorem d_BitWriter_tellBits_100 : decode b_BitWriter_tellBits 100 = .ok (.iconst 1, 1) := by decide +kernel
theorem d_BitWriter_tellBits_101 : decode b_BitWriter_tellBits 101 = .ok (.iadd, 1) := by decide +kernel
theorem d_BitWriter_tellBits_102 : decode b_BitWriter_tellBits 102 = .ok (.putfield 15, 3) := by decide +kernel
theorem d_BitWriter_tellBits_105 : decode b_BitWriter_tellBits 105 = .ok (.iinc 3 (-1), 3) := by decide +kernel
theorem d_BitWriter_tellBits_108 : decode b_BitWriter_tellBits 108 = .ok (.goto (-86), 3) := by decide +kernel
theorem d_BitWriter_tellBits_111 : decode b_BitWriter_tellBits 111 = .ok (.return_, 1) := by decide +kernel
theorem d_BitWriter_tellNumber_0 : decode b_BitWriter_tellNumber 0 = .ok (.iconst 0, 1) := by decide +kernel
theorem d_BitWriter_tellNumber_1 : decode b_BitWriter_tellNumber 1 = .ok (.istore_n 2, 1) := by decide +kernel
theorem d_BitWriter_tellNumber_2 : decode b_BitWriter_tellNumber 2 = .ok (.iload_n 2, 1) := by decide +kernel
theorem d_BitWriter_tellNumber_3 : decode b_BitWriter_tellNumber 3 = .ok (.bipush 12, 2) := by decide +kernel
theorem d_BitWriter_tellNumber_5 : decode b_BitWriter_tellNumber 5 = .ok (.if_icmp .ge 19, 3) := by decide +kernel
theorem d_BitWriter_tellNumber_8 : decode b_BitWriter_tellNumber 8 = .ok (.iload_n 1, 1) := by decide +kernel
theorem d_BitWriter_tellNumber_9 : decode b_BitWriter_tellNumber 9 = .ok (.iconst 1, 1) := by decide +kernel
theorem d_BitWriter_tellNumber_10 : decode b_BitWriter_tellNumber 10 = .ok (.iadd, 1) := by decide +kernel
theorem d_BitWriter_tellNumber_11 : decode b_BitWriter_tellNumber 11 = .ok (.iload_n 2, 1) := by decide +kernel
theorem d_BitWriter_tellNumber_12 : decode b_BitWriter_tellNumber 12 = .ok (.iconst 1, 1) := by decide +kernel
theorem d_BitWriter_tellNumber_13 : decode b_BitWriter_tellNumber 13 = .ok (.iadd, 1) := by decide +kernel
theorem d_BitWriter_tellNumber_14 : decode b_BitWriter_tellNumber 14 = .ok (.ishr, 1) := by decide +kernel
theorem d_BitWriter_tellNumber_15 : decode b_BitWriter_tellNumber 15 = .ok (.ifCond .eq 9, 3) := by decide +kernel
theorem d_BitWriter_tellNumber_18 : decode b_BitWriter_tellNumber 18 = .ok (.iinc 2 1, 3) := by decide +kernel
theorem d_BitWriter_tellNumber_21 : decode b_BitWriter_tellNumber 21 = .ok (.goto (-19), 3) := by decide +kernel
theorem d_BitWriter_tellNumber_24 : decode b_BitWriter_tellNumber 24 = .ok (.aload_n 0, 1) := by decide +kernel
theorem d_BitWriter_tellNumber_25 : decode b_BitWriter_tellNumber 25 = .ok (.iload_n 1, 1) := by decide +kernel
theorem d_BitWriter_tellNumber_26 : decode b_BitWriter_tellNumber 26 = .ok (.iconst 1, 1) := by decide +kernel
theorem d_BitWriter_tellNumber_27 : decode b_BitWriter_tellNumber 27 = .ok (.iadd, 1) := by decide +kernel
theorem d_BitWriter_tellNumber_28 : decode b_BitWriter_tellNumber 28 = .ok (.iconst 2, 1) := by decide +kernel
theorem d_BitWriter_tellNumber_29 : decode b_BitWriter_tellNumber 29 = .ok (.iload_n 2, 1) := by decide +kernel
theorem d_BitWriter_tellNumber_30 : decode b_BitWriter_tellNumber 30 = .ok (.imul, 1) := by decide +kernel
theorem d_BitWriter_tellNumber_31 : decode b_BitWriter_tellNumber 31 = .ok (.iconst 1, 1) := by decide +kernel
theorem d_BitWriter_tellNumber_32 : decode b_BitWriter_tellNumber 32 = .ok (.iadd, 1) := by decide +kernel
theorem d_BitWriter_tellNumber_33 : decode b_BitWriter_tellNumber 33 = .ok (.invokevirtual 34, 3) := by decide +kernel
theorem d_BitWriter_tellNumber_36 : decode b_BitWriter_tellNumber 36 = .ok (.return_, 1) := by decide +kernel
theorem d_BitWriter_tellSigned_0 : decode b_BitWriter_tellSigned 0 = .ok (.aload_n 0, 1) := by decide +kernel
theorem d_BitWriter_tellSigned_1 : decode b_BitWriter_tellSigned 1 = .ok (.iload_n 1, 1) := by decide +kernel
theorem d_BitWriter_tellSigned_2 : decode b_BitWriter_tellSigned 2 = .ok (.ifCond .lt 9, 3) := by decide +kernel
theorem d_BitWriter_tellSigned_5 : decode b_BitWriter_tellSigned 5 = .ok (.iconst 2, 1) := by decide +kernel
theorem d_BitWriter_tellSigned_6 : decode b_BitWriter_tellSigned 6 = .ok (.iload_n 1, 1) := by decide +kernel
theorem d_BitWriter_tellSigned_7 : decode b_BitWriter_tellSigned 7 = .ok (.imul, 1) := by decide +kernel
theorem d_BitWriter_tellSigned_8 : decode b_BitWriter_tellSigned 8 = .ok (.goto 9, 3) := by decide +kernel
theorem d_BitWriter_tellSigned_11 : decode b_BitWriter_tellSigned 11 = .ok (.bipush (-2), 2) := by decide +kernel
theorem d_BitWriter_tellSigned_13 : decode b_BitWriter_tellSigned 13 = .ok (.iload_n 1, 1) := by decide +kernel
theorem d_BitWriter_tellSigned_14 : decode b_BitWriter_tellSigned 14 = .ok (.imul, 1) := by decide +kernel
theorem d_BitWriter_tellSigned_15 : decode b_BitWriter_tellSigned 15 = .ok (.iconst 1, 1) := by decide +kernel
theorem d_BitWriter_tellSigned_16 : decode b_BitWriter_tellSigned 16 = .ok (.isub, 1) := by decide +kernel
theorem d_BitWriter_tellSigned_17 : decode b_BitWriter_tellSigned 17 = .ok (.invokevirtual 38, 3) := by decide +kernel
theorem d_BitWriter_tellSigned_20 : decode b_BitWriter_tellSigned 20 = .ok (.return_, 1) := by decide +kernel
theorem d_ByteRow_init_0 : decode b_ByteRow_init 0 = .ok (.aload_n 0, 1) := by decide +kernel
theorem d_ByteRow_init_1 : decode b_ByteRow_init 1 = .ok (.invokespecial 3, 3) := by decide +kernel
theorem d_ByteRow_init_4 : decode b_ByteRow_init 4 = .ok (.aload_n 0, 1) := by decide +kernel
theorem d_ByteRow_init_5 : decode b_ByteRow_init 5 = .ok (.sipush 2000, 3) := by decide +kernel
theorem d_ByteRow_init_8 : decode b_ByteRow_init 8 = .ok (.newarray .int, 2) := by decide +kernel
theorem d_ByteRow_init_10 : decode b_ByteRow_init 10 = .ok (.putfield 9, 3) := by decide +kernel
theorem d_ByteRow_init_13 : decode b_ByteRow_init 13 = .ok (.aload_n 0, 1) := by decide +kernel
theorem d_ByteRow_init_14 : decode b_ByteRow_init 14 = .ok (.iconst 0, 1) := by decide +kernel
theorem d_ByteRow_init_15 : decode b_ByteRow_init 15 = .ok (.putfield 15, 3) := by decide +kernel
theorem d_ByteRow_init_18 : decode b_ByteRow_init 18 = .ok (.return_, 1) := by decide +kernel
theorem d_ByteRow_append_0 : decode b_ByteRow_append 0 = .ok (.aload_n 0, 1) := by decide +kernel
theorem d_ByteRow_append_1 : decode b_ByteRow_append 1 = .ok (.getfield 15, 3) := by decide +kernel
theorem d_ByteRow_append_4 : decode b_ByteRow_append 4 = .ok (.sipush 2000, 3) := by decide +kernel
theorem d_ByteRow_append_7 : decode b_ByteRow_append 7 = .ok (.if_icmp .ge 23, 3) := by decide +kernel
theorem d_ByteRow_append_10 : decode b_ByteRow_append 10 = .ok (.aload_n 0, 1) := by decide +kernel
theorem d_ByteRow_append_11 : decode b_ByteRow_append 11 = .ok (.getfield 9, 3) := by decide +kernel
theorem d_ByteRow_append_14 : decode b_ByteRow_append 14 = .ok (.aload_n 0, 1) := by decide +kernel
theorem d_ByteRow_append_15 : decode b_ByteRow_append 15 = .ok (.getfield 15, 3) := by decide +kernel
theorem d_ByteRow_append_18 : decode b_ByteRow_append 18 = .ok (.iload_n 1, 1) := by decide +kernel
theorem d_ByteRow_append_19 : decode b_ByteRow_append 19 = .ok (.iastore, 1) := by decide +kernel
theorem d_ByteRow_append_20 : decode b_ByteRow_append 20 = .ok (.aload_n 0, 1) := by decide +kernel
theorem d_ByteRow_append_21 : decode b_ByteRow_append 21 = .ok (.dup, 1) := by decide +kernel
theorem d_ByteRow_append_22 : decode b_ByteRow_append 22 = .ok (.getfield 15, 3) := by decide +kernel
theorem d_ByteRow_append_25 : decode b_ByteRow_append 25 = .ok (.iconst 1, 1) := by decide +kernel
theorem d_ByteRow_append_26 : decode b_ByteRow_append 26 = .ok (.iadd, 1) := by decide +kernel
theorem d_ByteRow_append_27 : decode b_ByteRow_append 27 = .ok (.putfield 15, 3) := by decide +kernel
theorem d_ByteRow_append_30 : decode b_ByteRow_append 30 = .ok (.return_, 1) := by decide +kernel
theorem d_CodeNames_init_0 : decode b_CodeNames_init 0 = .ok (.aload_n 0, 1) := by decide +kernel
theorem d_CodeNames_init_1 : decode b_CodeNames_init 1 = .ok (.invokespecial 3, 3) := by decide +kernel
theorem d_CodeNames_init_4 : decode b_CodeNames_init 4 = .ok (.aload_n 0, 1) := by decide +kernel
theorem d_CodeNames_init_5 : decode b_CodeNames_init 5 = .ok (.bipush 16, 2) := by decide +kernel
theorem d_CodeNames_init_7 : decode b_CodeNames_init 7 = .ok (.newarray .int, 2) := by decide +kernel
theorem d_CodeNames_init_9 : decode b_CodeNames_init 9 = .ok (.putfield 9, 3) := by decide +kernel
theorem d_CodeNames_init_12 : decode b_CodeNames_init 12 = .ok (.aload_n 0, 1) := by decide +kernel
theorem d_CodeNames_init_13 : decode b_CodeNames_init 13 = .ok (.bipush 16, 2) := by decide +kernel
theorem d_CodeNames_init_15 : decode b_CodeNames_init 15 = .ok (.newarray .int, 2) := by decide +kernel
theorem d_CodeNames_init_17 : decode b_CodeNames_init 17 = .ok (.putfield 15, 3) := by decide +kernel
theorem d_CodeNames_init_20 : decode b_CodeNames_init 20 = .ok (.aload_n 0, 1) := by decide +kernel
theorem d_CodeNames_init_21 : decode b_CodeNames_init 21 = .ok (.bipush 32, 2) := by decide +kernel
theorem d_CodeNames_init_23 : decode b_CodeNames_init 23 = .ok (.newarray .int, 2) := by decide +kernel
theorem d_CodeNames_init_25 : decode b_CodeNames_init 25 = .ok (.putfield 18, 3) := by decide +kernel
theorem d_CodeNames_init_28 : decode b_CodeNames_init 28 = .ok (.aload_n 0, 1) := by decide +kernel
theorem d_CodeNames_init_29 : decode b_CodeNames_init 29 = .ok (.bipush 32, 2) := by decide +kernel
theorem d_CodeNames_init_31 : decode b_CodeNames_init 31 = .ok (.newarray .int, 2) := by decide +kernel
theorem d_CodeNames_init_33 : decode b_CodeNames_init 33 = .ok (.putfield 21, 3) := by decide +kernel
theorem d_CodeNames_init_36 : decode b_CodeNames_init 36 = .ok (.aload_n 0, 1) := by decide +kernel
theorem d_CodeNames_init_37 : decode b_CodeNames_init 37 = .ok (.aload_n 1, 1) := by decide +kernel
theorem d_CodeNames_init_38 : decode b_CodeNames_init 38 = .ok (.putfield 24, 3) := by decide +kernel
theorem d_CodeNames_init_41 : decode b_CodeNames_init 41 = .ok (.return_, 1) := by decide +kernel
theorem d_CodeNames_suit_0 : decode b_CodeNames_suit 0 = .ok (.aload_n 0, 1) := by decide +kernel
theorem d_CodeNames_suit_1 : decode b_CodeNames_suit 1 = .ok (.aload_n 1, 1) := by decide +kernel
theorem d_CodeNames_suit_2 : decode b_CodeNames_suit 2 = .ok (.invokevirtual 28, 3) := by decide +kernel
theorem d_CodeNames_suit_5 : decode b_CodeNames_suit 5 = .ok (.iconst 0, 1) := by decide +kernel
theorem d_CodeNames_suit_6 : decode b_CodeNames_suit 6 = .ok (.istore_n 2, 1) := by decide +kernel
theorem d_CodeNames_suit_7 : decode b_CodeNames_suit 7 = .ok (.iconst 0, 1) := by decide +kernel
theorem d_CodeNames_suit_8 : decode b_CodeNames_suit 8 = .ok (.istore_n 3, 1) := by decide +kernel
theorem d_CodeNames_suit_9 : decode b_CodeNames_suit 9 = .ok (.iload_n 3, 1) := by decide +kernel
theorem d_CodeNames_suit_10 : decode b_CodeNames_suit 10 = .ok (.aload_n 0, 1) := by decide +kernel
theorem d_CodeNames_suit_11 : decode b_CodeNames_suit 11 = .ok (.getfield 24, 3) := by decide +kernel
theorem d_CodeNames_suit_14 : decode b_CodeNames_suit 14 = .ok (.getfield 32, 3) := by decide +kernel
theorem d_CodeNames_suit_17 : decode b_CodeNames_suit 17 = .ok (.if_icmp .ge 26, 3) := by decide +kernel
theorem d_CodeNames_suit_20 : decode b_CodeNames_suit 20 = .ok (.iload_n 2, 1) := by decide +kernel
theorem d_CodeNames_suit_21 : decode b_CodeNames_suit 21 = .ok (.aload_n 0, 1) := by decide +kernel
theorem d_CodeNames_suit_22 : decode b_CodeNames_suit 22 = .ok (.getfield 18, 3) := by decide +kernel
theorem d_CodeNames_suit_25 : decode b_CodeNames_suit 25 = .ok (.iload_n 3, 1) := by decide +kernel
theorem d_CodeNames_suit_26 : decode b_CodeNames_suit 26 = .ok (.iaload, 1) := by decide +kernel
theorem d_CodeNames_suit_27 : decode b_CodeNames_suit 27 = .ok (.ifCond .le 7, 3) := by decide +kernel
theorem d_CodeNames_suit_30 : decode b_CodeNames_suit 30 = .ok (.iconst 1, 1) := by decide +kernel
theorem d_CodeNames_suit_31 : decode b_CodeNames_suit 31 = .ok (.goto 4, 3) := by decide +kernel
theorem d_CodeNames_suit_34 : decode b_CodeNames_suit 34 = .ok (.iconst 0, 1) := by decide +kernel
theorem d_CodeNames_suit_35 : decode b_CodeNames_suit 35 = .ok (.iadd, 1) := by decide +kernel
theorem d_CodeNames_suit_36 : decode b_CodeNames_suit 36 = .ok (.istore_n 2, 1) := by decide +kernel
theorem d_CodeNames_suit_37 : decode b_CodeNames_suit 37 = .ok (.iinc 3 1, 3) := by decide +kernel
theorem d_CodeNames_suit_40 : decode b_CodeNames_suit 40 = .ok (.goto (-31), 3) := by decide +kernel
theorem d_CodeNames_suit_43 : decode b_CodeNames_suit 43 = .ok (.iconst 0, 1) := by decide +kernel
theorem d_CodeNames_suit_44 : decode b_CodeNames_suit 44 = .ok (.istore_n 3, 1) := by decide +kernel
theorem d_CodeNames_suit_45 : decode b_CodeNames_suit 45 = .ok (.iload_n 3, 1) := by decide +kernel
theorem d_CodeNames_suit_46 : decode b_CodeNames_suit 46 = .ok (.iload_n 2, 1) := by decide +kernel
theorem d_CodeNames_suit_47 : decode b_CodeNames_suit 47 = .ok (.iconst 1, 1) := by decide +kernel
theorem d_CodeNames_suit_48 : decode b_CodeNames_suit 48 = .ok (.isub, 1) := by decide +kernel
theorem d_CodeNames_suit_49 : decode b_CodeNames_suit 49 = .ok (.if_icmp .ge 43, 3) := by decide +kernel
theorem d_CodeNames_suit_52 : decode b_CodeNames_suit 52 = .ok (.bipush 16, 2) := by decide +kernel
theorem d_CodeNames_suit_54 : decode b_CodeNames_suit 54 = .ok (.iload_n 3, 1) := by decide +kernel
theorem d_CodeNames_suit_55 : decode b_CodeNames_suit 55 = .ok (.iadd, 1) := by decide +kernel
theorem d_CodeNames_suit_56 : decode b_CodeNames_suit 56 = .ok (.istore 4, 2) := by decide +kernel
theorem d_CodeNames_suit_58 : decode b_CodeNames_suit 58 = .ok (.aload_n 0, 1) := by decide +kernel
theorem d_CodeNames_suit_59 : decode b_CodeNames_suit 59 = .ok (.iload 4, 2) := by decide +kernel
theorem d_CodeNames_suit_61 : decode b_CodeNames_suit 61 = .ok (.invokevirtual 38, 3) := by decide +kernel
theorem d_CodeNames_suit_64 : decode b_CodeNames_suit 64 = .ok (.istore 5, 2) := by decide +kernel
theorem d_CodeNames_suit_66 : decode b_CodeNames_suit 66 = .ok (.aload_n 0, 1) := by decide +kernel
theorem d_CodeNames_suit_67 : decode b_CodeNames_suit 67 = .ok (.iload 4, 2) := by decide +kernel
theorem d_CodeNames_suit_69 : decode b_CodeNames_suit 69 = .ok (.invokevirtual 38, 3) := by decide +kernel
theorem d_CodeNames_suit_72 : decode b_CodeNames_suit 72 = .ok (.istore 6, 2) := by decide +kernel
theorem d_CodeNames_suit_74 : decode b_CodeNames_suit 74 = .ok (.aload_n 0, 1) := by decide +kernel
theorem d_CodeNames_suit_75 : decode b_CodeNames_suit 75 = .ok (.getfield 18, 3) := by decide +kernel
theorem d_CodeNames_suit_78 : decode b_CodeNames_suit 78 = .ok (.iload 4, 2) := by decide +kernel
theorem d_CodeNames_suit_80 : decode b_CodeNames_suit 80 = .ok (.iload 5, 2) := by decide +kernel
theorem d_CodeNames_suit_82 : decode b_CodeNames_suit 82 = .ok (.iload 6, 2) := by decide +kernel
theorem d_CodeNames_suit_84 : decode b_CodeNames_suit 84 = .ok (.iadd, 1) := by decide +kernel
theorem d_CodeNames_suit_85 : decode b_CodeNames_suit 85 = .ok (.iastore, 1) := by decide +kernel
theorem d_CodeNames_suit_86 : decode b_CodeNames_suit 86 = .ok (.iinc 3 1, 3) := by decide +kernel
theorem d_CodeNames_suit_89 : decode b_CodeNames_suit 89 = .ok (.goto (-44), 3) := by decide +kernel
theorem d_CodeNames_suit_92 : decode b_CodeNames_suit 92 = .ok (.iconst 0, 1) := by decide +kernel
theorem d_CodeNames_suit_93 : decode b_CodeNames_suit 93 = .ok (.istore_n 3, 1) := by decide +kernel
theorem d_CodeNames_suit_94 : decode b_CodeNames_suit 94 = .ok (.iload_n 3, 1) := by decide +kernel
theorem d_CodeNames_suit_95 : decode b_CodeNames_suit 95 = .ok (.bipush 16, 2) := by decide +kernel
theorem d_CodeNames_suit_97 : decode b_CodeNames_suit 97 = .ok (.if_icmp .ge 42, 3) := by decide +kernel
theorem d_CodeNames_suit_100 : decode b_CodeNames_suit 100 = .ok (.aload_n 0, 1) := by decide +kernel
theorem d_CodeNames_suit_101 : decode b_CodeNames_suit 101 = .ok (.getfield 9, 3) := by decide +kernel
theorem d_CodeNames_suit_104 : decode b_CodeNames_suit 104 = .ok (.iload_n 3, 1) := by decide +kernel
theorem d_CodeNames_suit_105 : decode b_CodeNames_suit 105 = .ok (.iload_n 2, 1) := by decide +kernel
theorem d_CodeNames_suit_106 : decode b_CodeNames_suit 106 = .ok (.iconst 1, 1) := by decide +kernel
theorem d_CodeNames_suit_107 : decode b_CodeNames_suit 107 = .ok (.if_icmp .ne 20, 3) := by decide +kernel
theorem d_CodeNames_suit_110 : decode b_CodeNames_suit 110 = .ok (.aload_n 0, 1) := by decide +kernel
theorem d_CodeNames_suit_111 : decode b_CodeNames_suit 111 = .ok (.getfield 18, 3) := by decide +kernel
theorem d_CodeNames_suit_114 : decode b_CodeNames_suit 114 = .ok (.iload_n 3, 1) := by decide +kernel
theorem d_CodeNames_suit_115 : decode b_CodeNames_suit 115 = .ok (.iaload, 1) := by decide +kernel
theorem d_CodeNames_suit_116 : decode b_CodeNames_suit 116 = .ok (.ifCond .le 7, 3) := by decide +kernel
theorem d_CodeNames_suit_119 : decode b_CodeNames_suit 119 = .ok (.iconst 1, 1) := by decide +kernel
theorem d_CodeNames_suit_120 : decode b_CodeNames_suit 120 = .ok (.goto 12, 3) := by decide +kernel
theorem d_CodeNames_suit_123 : decode b_CodeNames_suit 123 = .ok (.iconst 0, 1) := by decide +kernel
theorem d_CodeNames_suit_124 : decode b_CodeNames_suit 124 = .ok (.goto 8, 3) := by decide +kernel
theorem d_CodeNames_suit_127 : decode b_CodeNames_suit 127 = .ok (.aload_n 0, 1) := by decide +kernel
theorem d_CodeNames_suit_128 : decode b_CodeNames_suit 128 = .ok (.iload_n 3, 1) := by decide +kernel
theorem d_CodeNames_suit_129 : decode b_CodeNames_suit 129 = .ok (.invokevirtual 42, 3) := by decide +kernel
theorem d_CodeNames_suit_132 : decode b_CodeNames_suit 132 = .ok (.iastore, 1) := by decide +kernel
theorem d_CodeNames_suit_133 : decode b_CodeNames_suit 133 = .ok (.iinc 3 1, 3) := by decide +kernel
theorem d_CodeNames_suit_136 : decode b_CodeNames_suit 136 = .ok (.goto (-42), 3) := by decide +kernel
theorem d_CodeNames_suit_139 : decode b_CodeNames_suit 139 = .ok (.aload_n 0, 1) := by decide +kernel
theorem d_CodeNames_suit_140 : decode b_CodeNames_suit 140 = .ok (.invokevirtual 45, 3) := by decide +kernel
theorem d_CodeNames_suit_143 : decode b_CodeNames_suit 143 = .ok (.return_, 1) := by decide +kernel
theorem d_CodeNames_tellTable_0 : decode b_CodeNames_tellTable 0 = .ok (.iconst 0, 1) := by decide +kernel
theorem d_CodeNames_tellTable_1 : decode b_CodeNames_tellTable 1 = .ok (.istore_n 2, 1) := by decide +kernel
theorem d_CodeNames_tellTable_2 : decode b_CodeNames_tellTable 2 = .ok (.iload_n 2, 1) := by decide +kernel
theorem d_CodeNames_tellTable_3 : decode b_CodeNames_tellTable 3 = .ok (.aload_n 0, 1) := by decide +kernel
theorem d_CodeNames_tellTable_4 : decode b_CodeNames_tellTable 4 = .ok (.getfield 24, 3) := by decide +kernel
theorem d_CodeNames_tellTable_7 : decode b_CodeNames_tellTable 7 = .ok (.getfield 32, 3) := by decide +kernel
theorem d_CodeNames_tellTable_10 : decode b_CodeNames_tellTable 10 = .ok (.if_icmp .ge 20, 3) := by decide +kernel
theorem d_CodeNames_tellTable_13 : decode b_CodeNames_tellTable 13 = .ok (.aload_n 1, 1) := by decide +kernel
theorem d_CodeNames_tellTable_14 : decode b_CodeNames_tellTable 14 = .ok (.aload_n 0, 1) := by decide +kernel
theorem d_CodeNames_tellTable_15 : decode b_CodeNames_tellTable 15 = .ok (.getfield 9, 3) := by decide +kernel
theorem d_CodeNames_tellTable_18 : decode b_CodeNames_tellTable 18 = .ok (.iload_n 2, 1) := by decide +kernel
theorem d_CodeNames_tellTable_19 : decode b_CodeNames_tellTable 19 = .ok (.iaload, 1) := by decide +kernel
theorem d_CodeNames_tellTable_20 : decode b_CodeNames_tellTable 20 = .ok (.iconst 4, 1) := by decide +kernel
theorem d_CodeNames_tellTable_21 : decode b_CodeNames_tellTable 21 = .ok (.invokevirtual 48, 3) := by decide +kernel
theorem d_CodeNames_tellTable_24 : decode b_CodeNames_tellTable 24 = .ok (.iinc 2 1, 3) := by decide +kernel
theorem d_CodeNames_tellTable_27 : decode b_CodeNames_tellTable 27 = .ok (.goto (-25), 3) := by decide +kernel
theorem d_CodeNames_tellTable_30 : decode b_CodeNames_tellTable 30 = .ok (.return_, 1) := by decide +kernel
theorem d_CodeNames_tellName_0 : decode b_CodeNames_tellName 0 = .ok (.aload_n 2, 1) := by decide +kernel
theorem d_CodeNames_tellName_1 : decode b_CodeNames_tellName 1 = .ok (.aload_n 0, 1) := by decide +kernel
theorem d_CodeNames_tellName_2 : decode b_CodeNames_tellName 2 = .ok (.getfield 15, 3) := by decide +kernel
theorem d_CodeNames_tellName_5 : decode b_CodeNames_tellName 5 = .ok (.iload_n 1, 1) := by decide +kernel
theorem d_CodeNames_tellName_6 : decode b_CodeNames_tellName 6 = .ok (.iaload, 1) := by decide +kernel
theorem d_CodeNames_tellName_7 : decode b_CodeNames_tellName 7 = .ok (.aload_n 0, 1) := by decide +kernel
theorem d_CodeNames_tellName_8 : decode b_CodeNames_tellName 8 = .ok (.getfield 9, 3) := by decide +kernel
theorem d_CodeNames_tellName_11 : decode b_CodeNames_tellName 11 = .ok (.iload_n 1, 1) := by decide +kernel
theorem d_CodeNames_tellName_12 : decode b_CodeNames_tellName 12 = .ok (.iaload, 1) := by decide +kernel
theorem d_CodeNames_tellName_13 : decode b_CodeNames_tellName 13 = .ok (.invokevirtual 48, 3) := by decide +kernel
theorem d_CodeNames_tellName_16 : decode b_CodeNames_tellName 16 = .ok (.return_, 1) := by decide +kernel
theorem d_CodeNames_readTable_0 : decode b_CodeNames_readTable 0 = .ok (.iconst 0, 1) := by decide +kernel
theorem d_CodeNames_readTable_1 : decode b_CodeNames_readTable 1 = .ok (.istore_n 3, 1) := by decide +kernel
theorem d_CodeNames_readTable_2 : decode b_CodeNames_readTable 2 = .ok (.iload_n 3, 1) := by decide +kernel
theorem d_CodeNames_readTable_3 : decode b_CodeNames_readTable 3 = .ok (.bipush 16, 2) := by decide +kernel
theorem d_CodeNames_readTable_5 : decode b_CodeNames_readTable 5 = .ok (.if_icmp .ge 35, 3) := by decide +kernel
theorem d_CodeNames_readTable_8 : decode b_CodeNames_readTable 8 = .ok (.aload_n 0, 1) := by decide +kernel
theorem d_CodeNames_readTable_9 : decode b_CodeNames_readTable 9 = .ok (.getfield 9, 3) := by decide +kernel
theorem d_CodeNames_readTable_12 : decode b_CodeNames_readTable 12 = .ok (.iload_n 3, 1) := by decide +kernel
theorem d_CodeNames_readTable_13 : decode b_CodeNames_readTable 13 = .ok (.iload_n 3, 1) := by decide +kernel
theorem d_CodeNames_readTable_14 : decode b_CodeNames_readTable 14 = .ok (.aload_n 0, 1) := by decide +kernel
theorem d_CodeNames_readTable_15 : decode b_CodeNames_readTable 15 = .ok (.getfield 24, 3) := by decide +kernel
theorem d_CodeNames_readTable_18 : decode b_CodeNames_readTable 18 = .ok (.getfield 32, 3) := by decide +kernel
theorem d_CodeNames_readTable_21 : decode b_CodeNames_readTable 21 = .ok (.if_icmp .ge 11, 3) := by decide +kernel
theorem d_CodeNames_readTable_24 : decode b_CodeNames_readTable 24 = .ok (.aload_n 1, 1) := by decide +kernel
theorem d_CodeNames_readTable_25 : decode b_CodeNames_readTable 25 = .ok (.iconst 4, 1) := by decide +kernel
theorem d_CodeNames_readTable_26 : decode b_CodeNames_readTable 26 = .ok (.invokevirtual 54, 3) := by decide +kernel
theorem d_CodeNames_readTable_29 : decode b_CodeNames_readTable 29 = .ok (.goto 4, 3) := by decide +kernel
theorem d_CodeNames_readTable_32 : decode b_CodeNames_readTable 32 = .ok (.iconst 0, 1) := by decide +kernel
theorem d_CodeNames_readTable_33 : decode b_CodeNames_readTable 33 = .ok (.iastore, 1) := by decide +kernel
theorem d_CodeNames_readTable_34 : decode b_CodeNames_readTable 34 = .ok (.iinc 3 1, 3) := by decide +kernel
theorem d_CodeNames_readTable_37 : decode b_CodeNames_readTable 37 = .ok (.goto (-35), 3) := by decide +kernel
theorem d_CodeNames_readTable_40 : decode b_CodeNames_readTable 40 = .ok (.aload_n 0, 1) := by decide +kernel
theorem d_CodeNames_readTable_41 : decode b_CodeNames_readTable 41 = .ok (.iload_n 2, 1) := by decide +kernel
theorem d_CodeNames_readTable_42 : decode b_CodeNames_readTable 42 = .ok (.invokevirtual 59, 3) := by decide +kernel
theorem d_CodeNames_readTable_45 : decode b_CodeNames_readTable 45 = .ok (.ifCond .ne 8, 3) := by decide +kernel
theorem d_CodeNames_readTable_48 : decode b_CodeNames_readTable 48 = .ok (.aload_n 1, 1) := by decide +kernel
theorem d_CodeNames_readTable_49 : decode b_CodeNames_readTable 49 = .ok (.iconst 4, 1) := by decide +kernel
theorem d_CodeNames_readTable_50 : decode b_CodeNames_readTable 50 = .ok (.invokevirtual 63, 3) := by decide +kernel
theorem d_CodeNames_readTable_53 : decode b_CodeNames_readTable 53 = .ok (.aload_n 0, 1) := by decide +kernel
theorem d_CodeNames_readTable_54 : decode b_CodeNames_readTable 54 = .ok (.invokevirtual 45, 3) := by decide +kernel
theorem d_CodeNames_readTable_57 : decode b_CodeNames_readTable 57 = .ok (.return_, 1) := by decide +kernel
theorem d_CodeNames_readName_0 : decode b_CodeNames_readName 0 = .ok (.iconst 0, 1) := by decide +kernel
theorem d_CodeNames_readName_1 : decode b_CodeNames_readName 1 = .ok (.istore_n 2, 1) := by decide +kernel
theorem d_CodeNames_readName_2 : decode b_CodeNames_readName 2 = .ok (.iconst 0, 1) := by decide +kernel
theorem d_CodeNames_readName_3 : decode b_CodeNames_readName 3 = .ok (.istore_n 3, 1) := by decide +kernel
theorem d_CodeNames_readName_4 : decode b_CodeNames_readName 4 = .ok (.iload_n 3, 1) := by decide +kernel
theorem d_CodeNames_readName_5 : decode b_CodeNames_readName 5 = .ok (.aload_n 0, 1) := by decide +kernel
theorem d_CodeNames_readName_6 : decode b_CodeNames_readName 6 = .ok (.getfield 24, 3) := by decide +kernel
theorem d_CodeNames_readName_9 : decode b_CodeNames_readName 9 = .ok (.getfield 32, 3) := by decide +kernel
theorem d_CodeNames_readName_12 : decode b_CodeNames_readName 12 = .ok (.if_icmp .ge 20, 3) := by decide +kernel
theorem d_CodeNames_readName_15 : decode b_CodeNames_readName 15 = .ok (.iload_n 2, 1) := by decide +kernel
theorem d_CodeNames_readName_16 : decode b_CodeNames_readName 16 = .ok (.aload_n 0, 1) := by decide +kernel
theorem d_CodeNames_readName_17 : decode b_CodeNames_readName 17 = .ok (.getfield 9, 3) := by decide +kernel
theorem d_CodeNames_readName_20 : decode b_CodeNames_readName 20 = .ok (.iload_n 3, 1) := by decide +kernel
theorem d_CodeNames_readName_21 : decode b_CodeNames_readName 21 = .ok (.iaload, 1) := by decide +kernel
theorem d_CodeNames_readName_22 : decode b_CodeNames_readName 22 = .ok (.invokestatic 67, 3) := by decide +kernel
theorem d_CodeNames_readName_25 : decode b_CodeNames_readName 25 = .ok (.istore_n 2, 1) := by decide +kernel
theorem d_CodeNames_readName_26 : decode b_CodeNames_readName 26 = .ok (.iinc 3 1, 3) := by decide +kernel
theorem d_CodeNames_readName_29 : decode b_CodeNames_readName 29 = .ok (.goto (-25), 3) := by decide +kernel
theorem d_CodeNames_readName_32 : decode b_CodeNames_readName 32 = .ok (.iconst 0, 1) := by decide +kernel
theorem d_CodeNames_readName_33 : decode b_CodeNames_readName 33 = .ok (.istore_n 3, 1) := by decide +kernel
theorem d_CodeNames_readName_34 : decode b_CodeNames_readName 34 = .ok (.iconst 1, 1) := by decide +kernel
theorem d_CodeNames_readName_35 : decode b_CodeNames_readName 35 = .ok (.istore 4, 2) := by decide +kernel
theorem d_CodeNames_readName_37 : decode b_CodeNames_readName 37 = .ok (.iload 4, 2) := by decide +kernel
theorem d_CodeNames_readName_39 : decode b_CodeNames_readName 39 = .ok (.iload_n 2, 1) := by decide +kernel
theorem d_CodeNames_readName_40 : decode b_CodeNames_readName 40 = .ok (.if_icmp .gt 36, 3) := by decide +kernel
theorem d_CodeNames_readName_43 : decode b_CodeNames_readName 43 = .ok (.iload_n 3, 1) := by decide +kernel
theorem d_CodeNames_readName_44 : decode b_CodeNames_readName 44 = .ok (.iconst 1, 1) := by decide +kernel
theorem d_CodeNames_readName_45 : decode b_CodeNames_readName 45 = .ok (.ishl, 1) := by decide +kernel
theorem d_CodeNames_readName_46 : decode b_CodeNames_readName 46 = .ok (.aload_n 1, 1) := by decide +kernel
theorem d_CodeNames_readName_47 : decode b_CodeNames_readName 47 = .ok (.invokevirtual 73, 3) := by decide +kernel
theorem d_CodeNames_readName_50 : decode b_CodeNames_readName 50 = .ok (.ior, 1) := by decide +kernel
theorem d_CodeNames_readName_51 : decode b_CodeNames_readName 51 = .ok (.istore_n 3, 1) := by decide +kernel
theorem d_CodeNames_readName_52 : decode b_CodeNames_readName 52 = .ok (.aload_n 0, 1) := by decide +kernel
theorem d_CodeNames_readName_53 : decode b_CodeNames_readName 53 = .ok (.iload_n 3, 1) := by decide +kernel
theorem d_CodeNames_readName_54 : decode b_CodeNames_readName 54 = .ok (.iload 4, 2) := by decide +kernel
theorem d_CodeNames_readName_56 : decode b_CodeNames_readName 56 = .ok (.invokevirtual 77, 3) := by decide +kernel
theorem d_CodeNames_readName_59 : decode b_CodeNames_readName 59 = .ok (.istore 5, 2) := by decide +kernel
theorem d_CodeNames_readName_61 : decode b_CodeNames_readName 61 = .ok (.iload 5, 2) := by decide +kernel
theorem d_CodeNames_readName_63 : decode b_CodeNames_readName 63 = .ok (.iconst (-1), 1) := by decide +kernel
theorem d_CodeNames_readName_64 : decode b_CodeNames_readName 64 = .ok (.if_icmp .eq 6, 3) := by decide +kernel
theorem d_CodeNames_readName_67 : decode b_CodeNames_readName 67 = .ok (.iload 5, 2) := by decide +kernel
theorem d_CodeNames_readName_69 : decode b_CodeNames_readName 69 = .ok (.ireturn, 1) := by decide +kernel
theorem d_CodeNames_readName_70 : decode b_CodeNames_readName 70 = .ok (.iinc 4 1, 3) := by decide +kernel
theorem d_CodeNames_readName_73 : decode b_CodeNames_readName 73 = .ok (.goto (-36), 3) := by decide +kernel
theorem d_CodeNames_readName_76 : decode b_CodeNames_readName 76 = .ok (.aload_n 1, 1) := by decide +kernel
theorem d_CodeNames_readName_77 : decode b_CodeNames_readName 77 = .ok (.iconst 5, 1) := by decide +kernel
theorem d_CodeNames_readName_78 : decode b_CodeNames_readName 78 = .ok (.invokevirtual 63, 3) := by decide +kernel
theorem d_CodeNames_readName_81 : decode b_CodeNames_readName 81 = .ok (.iconst 0, 1) := by decide +kernel
theorem d_CodeNames_readName_82 : decode b_CodeNames_readName 82 = .ok (.ireturn, 1) := by decide +kernel
theorem d_CodeNames_symbolOf_0 : decode b_CodeNames_symbolOf 0 = .ok (.iconst 0, 1) := by decide +kernel
theorem d_CodeNames_symbolOf_1 : decode b_CodeNames_symbolOf 1 = .ok (.istore_n 3, 1) := by decide +kernel
theorem d_CodeNames_symbolOf_2 : decode b_CodeNames_symbolOf 2 = .ok (.iload_n 3, 1) := by decide +kernel
theorem d_CodeNames_symbolOf_3 : decode b_CodeNames_symbolOf 3 = .ok (.aload_n 0, 1) := by decide +kernel
theorem d_CodeNames_symbolOf_4 : decode b_CodeNames_symbolOf 4 = .ok (.getfield 24, 3) := by decide +kernel
theorem d_CodeNames_symbolOf_7 : decode b_CodeNames_symbolOf 7 = .ok (.getfield 32, 3) := by decide +kernel
theorem d_CodeNames_symbolOf_10 : decode b_CodeNames_symbolOf 10 = .ok (.if_icmp .ge 31, 3) := by decide +kernel
theorem d_CodeNames_symbolOf_13 : decode b_CodeNames_symbolOf 13 = .ok (.aload_n 0, 1) := by decide +kernel
theorem d_CodeNames_symbolOf_14 : decode b_CodeNames_symbolOf 14 = .ok (.getfield 9, 3) := by decide +kernel
theorem d_CodeNames_symbolOf_17 : decode b_CodeNames_symbolOf 17 = .ok (.iload_n 3, 1) := by decide +kernel
theorem d_CodeNames_symbolOf_18 : decode b_CodeNames_symbolOf 18 = .ok (.iaload, 1) := by decide +kernel
theorem d_CodeNames_symbolOf_19 : decode b_CodeNames_symbolOf 19 = .ok (.iload_n 2, 1) := by decide +kernel
theorem d_CodeNames_symbolOf_20 : decode b_CodeNames_symbolOf 20 = .ok (.if_icmp .ne 15, 3) := by decide +kernel
theorem d_CodeNames_symbolOf_23 : decode b_CodeNames_symbolOf 23 = .ok (.aload_n 0, 1) := by decide +kernel
theorem d_CodeNames_symbolOf_24 : decode b_CodeNames_symbolOf 24 = .ok (.getfield 15, 3) := by decide +kernel
theorem d_CodeNames_symbolOf_27 : decode b_CodeNames_symbolOf 27 = .ok (.iload_n 3, 1) := by decide +kernel
theorem d_CodeNames_symbolOf_28 : decode b_CodeNames_symbolOf 28 = .ok (.iaload, 1) := by decide +kernel
theorem d_CodeNames_symbolOf_29 : decode b_CodeNames_symbolOf 29 = .ok (.iload_n 1, 1) := by decide +kernel
theorem d_CodeNames_symbolOf_30 : decode b_CodeNames_symbolOf 30 = .ok (.if_icmp .ne 5, 3) := by decide +kernel
theorem d_CodeNames_symbolOf_33 : decode b_CodeNames_symbolOf 33 = .ok (.iload_n 3, 1) := by decide +kernel
theorem d_CodeNames_symbolOf_34 : decode b_CodeNames_symbolOf 34 = .ok (.ireturn, 1) := by decide +kernel
theorem d_CodeNames_symbolOf_35 : decode b_CodeNames_symbolOf 35 = .ok (.iinc 3 1, 3) := by decide +kernel
theorem d_CodeNames_symbolOf_38 : decode b_CodeNames_symbolOf 38 = .ok (.goto (-36), 3) := by decide +kernel
theorem d_CodeNames_symbolOf_41 : decode b_CodeNames_symbolOf 41 = .ok (.iconst (-1), 1) := by decide +kernel
theorem d_CodeNames_symbolOf_42 : decode b_CodeNames_symbolOf 42 = .ok (.ireturn, 1) := by decide +kernel
theorem d_CodeNames_weigh_0 : decode b_CodeNames_weigh 0 = .ok (.iconst 0, 1) := by decide +kernel
theorem d_CodeNames_weigh_1 : decode b_CodeNames_weigh 1 = .ok (.istore_n 2, 1) := by decide +kernel
theorem d_CodeNames_weigh_2 : decode b_CodeNames_weigh 2 = .ok (.iload_n 2, 1) := by decide +kernel
theorem d_CodeNames_weigh_3 : decode b_CodeNames_weigh 3 = .ok (.aload_n 0, 1) := by decide +kernel
theorem d_CodeNames_weigh_4 : decode b_CodeNames_weigh 4 = .ok (.getfield 18, 3) := by decide +kernel
theorem d_CodeNames_weigh_7 : decode b_CodeNames_weigh 7 = .ok (.arraylength, 1) := by decide +kernel
theorem d_CodeNames_weigh_8 : decode b_CodeNames_weigh 8 = .ok (.if_icmp .ge 23, 3) := by decide +kernel
theorem d_CodeNames_weigh_11 : decode b_CodeNames_weigh 11 = .ok (.aload_n 0, 1) := by decide +kernel
theorem d_CodeNames_weigh_12 : decode b_CodeNames_weigh 12 = .ok (.getfield 18, 3) := by decide +kernel
theorem d_CodeNames_weigh_15 : decode b_CodeNames_weigh 15 = .ok (.iload_n 2, 1) := by decide +kernel
theorem d_CodeNames_weigh_16 : decode b_CodeNames_weigh 16 = .ok (.iconst 0, 1) := by decide +kernel
theorem d_CodeNames_weigh_17 : decode b_CodeNames_weigh 17 = .ok (.iastore, 1) := by decide +kernel
theorem d_CodeNames_weigh_18 : decode b_CodeNames_weigh 18 = .ok (.aload_n 0, 1) := by decide +kernel
theorem d_CodeNames_weigh_19 : decode b_CodeNames_weigh 19 = .ok (.getfield 21, 3) := by decide +kernel
theorem d_CodeNames_weigh_22 : decode b_CodeNames_weigh 22 = .ok (.iload_n 2, 1) := by decide +kernel
theorem d_CodeNames_weigh_23 : decode b_CodeNames_weigh 23 = .ok (.iconst (-1), 1) := by decide +kernel
theorem d_CodeNames_weigh_24 : decode b_CodeNames_weigh 24 = .ok (.iastore, 1) := by decide +kernel
theorem d_CodeNames_weigh_25 : decode b_CodeNames_weigh 25 = .ok (.iinc 2 1, 3) := by decide +kernel
theorem d_CodeNames_weigh_28 : decode b_CodeNames_weigh 28 = .ok (.goto (-26), 3) := by decide +kernel
theorem d_CodeNames_weigh_31 : decode b_CodeNames_weigh 31 = .ok (.iconst 0, 1) := by decide +kernel
theorem d_CodeNames_weigh_32 : decode b_CodeNames_weigh 32 = .ok (.istore_n 2, 1) := by decide +kernel
theorem d_CodeNames_weigh_33 : decode b_CodeNames_weigh 33 = .ok (.iload_n 2, 1) := by decide +kernel
theorem d_CodeNames_weigh_34 : decode b_CodeNames_weigh 34 = .ok (.aload_n 1, 1) := by decide +kernel
theorem d_CodeNames_weigh_35 : decode b_CodeNames_weigh 35 = .ok (.getfield 80, 3) := by decide +kernel
theorem d_CodeNames_weigh_38 : decode b_CodeNames_weigh 38 = .ok (.if_icmp .ge 24, 3) := by decide +kernel
theorem d_CodeNames_weigh_41 : decode b_CodeNames_weigh 41 = .ok (.aload_n 0, 1) := by decide +kernel
theorem d_CodeNames_weigh_42 : decode b_CodeNames_weigh 42 = .ok (.getfield 18, 3) := by decide +kernel
theorem d_CodeNames_weigh_45 : decode b_CodeNames_weigh 45 = .ok (.aload_n 1, 1) := by decide +kernel
theorem d_CodeNames_weigh_46 : decode b_CodeNames_weigh 46 = .ok (.getfield 83, 3) := by decide +kernel
theorem d_CodeNames_weigh_49 : decode b_CodeNames_weigh 49 = .ok (.iload_n 2, 1) := by decide +kernel
theorem d_CodeNames_weigh_50 : decode b_CodeNames_weigh 50 = .ok (.iaload, 1) := by decide +kernel
theorem d_CodeNames_weigh_51 : decode b_CodeNames_weigh 51 = .ok (.dup2, 1) := by decide +kernel
theorem d_CodeNames_weigh_52 : decode b_CodeNames_weigh 52 = .ok (.iaload, 1) := by decide +kernel
theorem d_CodeNames_weigh_53 : decode b_CodeNames_weigh 53 = .ok (.iconst 1, 1) := by decide +kernel
theorem d_CodeNames_weigh_54 : decode b_CodeNames_weigh 54 = .ok (.iadd, 1) := by decide +kernel
theorem d_CodeNames_weigh_55 : decode b_CodeNames_weigh 55 = .ok (.iastore, 1) := by decide +kernel
theorem d_CodeNames_weigh_56 : decode b_CodeNames_weigh 56 = .ok (.iinc 2 1, 3) := by decide +kernel
theorem d_CodeNames_weigh_59 : decode b_CodeNames_weigh 59 = .ok (.goto (-26), 3) := by decide +kernel
theorem d_CodeNames_weigh_62 : decode b_CodeNames_weigh 62 = .ok (.return_, 1) := by decide +kernel
theorem d_CodeNames_joinLeast_0 : decode b_CodeNames_joinLeast 0 = .ok (.iconst (-1), 1) := by decide +kernel
theorem d_CodeNames_joinLeast_1 : decode b_CodeNames_joinLeast 1 = .ok (.istore_n 2, 1) := by decide +kernel
theorem d_CodeNames_joinLeast_2 : decode b_CodeNames_joinLeast 2 = .ok (.iconst 0, 1) := by decide +kernel
theorem d_CodeNames_joinLeast_3 : decode b_CodeNames_joinLeast 3 = .ok (.istore_n 3, 1) := by decide +kernel
theorem d_CodeNames_joinLeast_4 : decode b_CodeNames_joinLeast 4 = .ok (.iload_n 3, 1) := by decide +kernel
theorem d_CodeNames_joinLeast_5 : decode b_CodeNames_joinLeast 5 = .ok (.iload_n 1, 1) := by decide +kernel
theorem d_CodeNames_joinLeast_6 : decode b_CodeNames_joinLeast 6 = .ok (.if_icmp .ge 50, 3) := by decide +kernel
theorem d_CodeNames_joinLeast_9 : decode b_CodeNames_joinLeast 9 = .ok (.aload_n 0, 1) := by decide +kernel
theorem d_CodeNames_joinLeast_10 : decode b_CodeNames_joinLeast 10 = .ok (.getfield 18, 3) := by decide +kernel
theorem d_CodeNames_joinLeast_13 : decode b_CodeNames_joinLeast 13 = .ok (.iload_n 3, 1) := by decide +kernel
theorem d_CodeNames_joinLeast_14 : decode b_CodeNames_joinLeast 14 = .ok (.iaload, 1) := by decide +kernel
theorem d_CodeNames_joinLeast_15 : decode b_CodeNames_joinLeast 15 = .ok (.ifCond .le 35, 3) := by decide +kernel
theorem d_CodeNames_joinLeast_18 : decode b_CodeNames_joinLeast 18 = .ok (.aload_n 0, 1) := by decide +kernel
theorem d_CodeNames_joinLeast_19 : decode b_CodeNames_joinLeast 19 = .ok (.getfield 21, 3) := by decide +kernel
theorem d_CodeNames_joinLeast_22 : decode b_CodeNames_joinLeast 22 = .ok (.iload_n 3, 1) := by decide +kernel
theorem d_CodeNames_joinLeast_23 : decode b_CodeNames_joinLeast 23 = .ok (.iaload, 1) := by decide +kernel
theorem d_CodeNames_joinLeast_24 : decode b_CodeNames_joinLeast 24 = .ok (.iconst (-1), 1) := by decide +kernel
theorem d_CodeNames_joinLeast_25 : decode b_CodeNames_joinLeast 25 = .ok (.if_icmp .ne 25, 3) := by decide +kernel
theorem d_CodeNames_joinLeast_28 : decode b_CodeNames_joinLeast 28 = .ok (.iload_n 2, 1) := by decide +kernel
theorem d_CodeNames_joinLeast_29 : decode b_CodeNames_joinLeast 29 = .ok (.iconst (-1), 1) := by decide +kernel
theorem d_CodeNames_joinLeast_30 : decode b_CodeNames_joinLeast 30 = .ok (.if_icmp .eq 18, 3) := by decide +kernel
theorem d_CodeNames_joinLeast_33 : decode b_CodeNames_joinLeast 33 = .ok (.aload_n 0, 1) := by decide +kernel
theorem d_CodeNames_joinLeast_34 : decode b_CodeNames_joinLeast 34 = .ok (.getfield 18, 3) := by decide +kernel
theorem d_CodeNames_joinLeast_37 : decode b_CodeNames_joinLeast 37 = .ok (.iload_n 3, 1) := by decide +kernel
theorem d_CodeNames_joinLeast_38 : decode b_CodeNames_joinLeast 38 = .ok (.iaload, 1) := by decide +kernel
theorem d_CodeNames_joinLeast_39 : decode b_CodeNames_joinLeast 39 = .ok (.aload_n 0, 1) := by decide +kernel
theorem d_CodeNames_joinLeast_40 : decode b_CodeNames_joinLeast 40 = .ok (.getfield 18, 3) := by decide +kernel
theorem d_CodeNames_joinLeast_43 : decode b_CodeNames_joinLeast 43 = .ok (.iload_n 2, 1) := by decide +kernel
theorem d_CodeNames_joinLeast_44 : decode b_CodeNames_joinLeast 44 = .ok (.iaload, 1) := by decide +kernel
theorem d_CodeNames_joinLeast_45 : decode b_CodeNames_joinLeast 45 = .ok (.if_icmp .ge 5, 3) := by decide +kernel
theorem d_CodeNames_joinLeast_48 : decode b_CodeNames_joinLeast 48 = .ok (.iload_n 3, 1) := by decide +kernel
theorem d_CodeNames_joinLeast_49 : decode b_CodeNames_joinLeast 49 = .ok (.istore_n 2, 1) := by decide +kernel
theorem d_CodeNames_joinLeast_50 : decode b_CodeNames_joinLeast 50 = .ok (.iinc 3 1, 3) := by decide +kernel
theorem d_CodeNames_joinLeast_53 : decode b_CodeNames_joinLeast 53 = .ok (.goto (-49), 3) := by decide +kernel
theorem d_CodeNames_joinLeast_56 : decode b_CodeNames_joinLeast 56 = .ok (.iload_n 2, 1) := by decide +kernel
theorem d_CodeNames_joinLeast_57 : decode b_CodeNames_joinLeast 57 = .ok (.iconst (-1), 1) := by decide +kernel
theorem d_CodeNames_joinLeast_58 : decode b_CodeNames_joinLeast 58 = .ok (.if_icmp .ne 5, 3) := by decide +kernel
theorem d_CodeNames_joinLeast_61 : decode b_CodeNames_joinLeast 61 = .ok (.iconst 0, 1) := by decide +kernel
theorem d_CodeNames_joinLeast_62 : decode b_CodeNames_joinLeast 62 = .ok (.ireturn, 1) := by decide +kernel
theorem d_CodeNames_joinLeast_63 : decode b_CodeNames_joinLeast 63 = .ok (.aload_n 0, 1) := by decide +kernel
theorem d_CodeNames_joinLeast_64 : decode b_CodeNames_joinLeast 64 = .ok (.getfield 21, 3) := by decide +kernel
theorem d_CodeNames_joinLeast_67 : decode b_CodeNames_joinLeast 67 = .ok (.iload_n 2, 1) := by decide +kernel
theorem d_CodeNames_joinLeast_68 : decode b_CodeNames_joinLeast 68 = .ok (.iload_n 1, 1) := by decide +kernel
theorem d_CodeNames_joinLeast_69 : decode b_CodeNames_joinLeast 69 = .ok (.iastore, 1) := by decide +kernel
theorem d_CodeNames_joinLeast_70 : decode b_CodeNames_joinLeast 70 = .ok (.aload_n 0, 1) := by decide +kernel
theorem d_CodeNames_joinLeast_71 : decode b_CodeNames_joinLeast 71 = .ok (.getfield 18, 3) := by decide +kernel
theorem d_CodeNames_joinLeast_74 : decode b_CodeNames_joinLeast 74 = .ok (.iload_n 2, 1) := by decide +kernel
theorem d_CodeNames_joinLeast_75 : decode b_CodeNames_joinLeast 75 = .ok (.iaload, 1) := by decide +kernel
theorem d_CodeNames_joinLeast_76 : decode b_CodeNames_joinLeast 76 = .ok (.ireturn, 1) := by decide +kernel
theorem d_CodeNames_joinsOf_0 : decode b_CodeNames_joinsOf 0 = .ok (.iconst 0, 1) := by decide +kernel
theorem d_CodeNames_joinsOf_1 : decode b_CodeNames_joinsOf 1 = .ok (.istore_n 2, 1) := by decide +kernel
theorem d_CodeNames_joinsOf_2 : decode b_CodeNames_joinsOf 2 = .ok (.aload_n 0, 1) := by decide +kernel
theorem d_CodeNames_joinsOf_3 : decode b_CodeNames_joinsOf 3 = .ok (.getfield 21, 3) := by decide +kernel
theorem d_CodeNames_joinsOf_6 : decode b_CodeNames_joinsOf 6 = .ok (.iload_n 1, 1) := by decide +kernel
theorem d_CodeNames_joinsOf_7 : decode b_CodeNames_joinsOf 7 = .ok (.iaload, 1) := by decide +kernel
theorem d_CodeNames_joinsOf_8 : decode b_CodeNames_joinsOf 8 = .ok (.istore_n 3, 1) := by decide +kernel
theorem d_CodeNames_joinsOf_9 : decode b_CodeNames_joinsOf 9 = .ok (.iload_n 2, 1) := by decide +kernel
theorem d_CodeNames_joinsOf_10 : decode b_CodeNames_joinsOf 10 = .ok (.bipush 15, 2) := by decide +kernel
theorem d_CodeNames_joinsOf_12 : decode b_CodeNames_joinsOf 12 = .ok (.if_icmp .ge 21, 3) := by decide +kernel
theorem d_CodeNames_joinsOf_15 : decode b_CodeNames_joinsOf 15 = .ok (.iload_n 3, 1) := by decide +kernel
theorem d_CodeNames_joinsOf_16 : decode b_CodeNames_joinsOf 16 = .ok (.iconst (-1), 1) := by decide +kernel
theorem d_CodeNames_joinsOf_17 : decode b_CodeNames_joinsOf 17 = .ok (.if_icmp .eq 16, 3) := by decide +kernel
theorem d_CodeNames_joinsOf_20 : decode b_CodeNames_joinsOf 20 = .ok (.iinc 2 1, 3) := by decide +kernel
theorem d_CodeNames_joinsOf_23 : decode b_CodeNames_joinsOf 23 = .ok (.aload_n 0, 1) := by decide +kernel
theorem d_CodeNames_joinsOf_24 : decode b_CodeNames_joinsOf 24 = .ok (.getfield 21, 3) := by decide +kernel
theorem d_CodeNames_joinsOf_27 : decode b_CodeNames_joinsOf 27 = .ok (.iload_n 3, 1) := by decide +kernel
theorem d_CodeNames_joinsOf_28 : decode b_CodeNames_joinsOf 28 = .ok (.iaload, 1) := by decide +kernel
theorem d_CodeNames_joinsOf_29 : decode b_CodeNames_joinsOf 29 = .ok (.istore_n 3, 1) := by decide +kernel
theorem d_CodeNames_joinsOf_30 : decode b_CodeNames_joinsOf 30 = .ok (.goto (-21), 3) := by decide +kernel
theorem d_CodeNames_joinsOf_33 : decode b_CodeNames_joinsOf 33 = .ok (.iload_n 2, 1) := by decide +kernel
theorem d_CodeNames_joinsOf_34 : decode b_CodeNames_joinsOf 34 = .ok (.ireturn, 1) := by decide +kernel
theorem d_CodeNames_areAllowed_0 : decode b_CodeNames_areAllowed 0 = .ok (.ldc 85, 2) := by decide +kernel
theorem d_CodeNames_areAllowed_2 : decode b_CodeNames_areAllowed 2 = .ok (.istore_n 2, 1) := by decide +kernel
theorem d_CodeNames_areAllowed_3 : decode b_CodeNames_areAllowed 3 = .ok (.iconst 0, 1) := by decide +kernel
theorem d_CodeNames_areAllowed_4 : decode b_CodeNames_areAllowed 4 = .ok (.istore_n 3, 1) := by decide +kernel
theorem d_CodeNames_areAllowed_5 : decode b_CodeNames_areAllowed 5 = .ok (.iconst 0, 1) := by decide +kernel
theorem d_CodeNames_areAllowed_6 : decode b_CodeNames_areAllowed 6 = .ok (.istore 4, 2) := by decide +kernel
theorem d_CodeNames_areAllowed_8 : decode b_CodeNames_areAllowed 8 = .ok (.iconst 0, 1) := by decide +kernel
theorem d_CodeNames_areAllowed_9 : decode b_CodeNames_areAllowed 9 = .ok (.istore 5, 2) := by decide +kernel
theorem d_CodeNames_areAllowed_11 : decode b_CodeNames_areAllowed 11 = .ok (.iload 5, 2) := by decide +kernel
theorem d_CodeNames_areAllowed_13 : decode b_CodeNames_areAllowed 13 = .ok (.aload_n 0, 1) := by decide +kernel
theorem d_CodeNames_areAllowed_14 : decode b_CodeNames_areAllowed 14 = .ok (.getfield 24, 3) := by decide +kernel
theorem d_CodeNames_areAllowed_17 : decode b_CodeNames_areAllowed 17 = .ok (.getfield 32, 3) := by decide +kernel
theorem d_CodeNames_areAllowed_20 : decode b_CodeNames_areAllowed 20 = .ok (.if_icmp .ge 34, 3) := by decide +kernel
theorem d_CodeNames_areAllowed_23 : decode b_CodeNames_areAllowed 23 = .ok (.aload_n 0, 1) := by decide +kernel
theorem d_CodeNames_areAllowed_24 : decode b_CodeNames_areAllowed 24 = .ok (.getfield 9, 3) := by decide +kernel
theorem d_CodeNames_areAllowed_27 : decode b_CodeNames_areAllowed 27 = .ok (.iload 5, 2) := by decide +kernel
theorem d_CodeNames_areAllowed_29 : decode b_CodeNames_areAllowed 29 = .ok (.iaload, 1) := by decide +kernel
theorem d_CodeNames_areAllowed_30 : decode b_CodeNames_areAllowed 30 = .ok (.ifCond .le 18, 3) := by decide +kernel
theorem d_CodeNames_areAllowed_33 : decode b_CodeNames_areAllowed 33 = .ok (.iload_n 3, 1) := by decide +kernel
theorem d_CodeNames_areAllowed_34 : decode b_CodeNames_areAllowed 34 = .ok (.iload_n 2, 1) := by decide +kernel
theorem d_CodeNames_areAllowed_35 : decode b_CodeNames_areAllowed 35 = .ok (.aload_n 0, 1) := by decide +kernel
theorem d_CodeNames_areAllowed_36 : decode b_CodeNames_areAllowed 36 = .ok (.getfield 9, 3) := by decide +kernel
theorem d_CodeNames_areAllowed_39 : decode b_CodeNames_areAllowed 39 = .ok (.iload 5, 2) := by decide +kernel
theorem d_CodeNames_areAllowed_41 : decode b_CodeNames_areAllowed 41 = .ok (.iaload, 1) := by decide +kernel
theorem d_CodeNames_areAllowed_42 : decode b_CodeNames_areAllowed 42 = .ok (.ishr, 1) := by decide +kernel
theorem d_CodeNames_areAllowed_43 : decode b_CodeNames_areAllowed 43 = .ok (.iadd, 1) := by decide +kernel
theorem d_CodeNames_areAllowed_44 : decode b_CodeNames_areAllowed 44 = .ok (.istore_n 3, 1) := by decide +kernel
theorem d_CodeNames_areAllowed_45 : decode b_CodeNames_areAllowed 45 = .ok (.iinc 4 1, 3) := by decide +kernel
theorem d_CodeNames_areAllowed_48 : decode b_CodeNames_areAllowed 48 = .ok (.iinc 5 1, 3) := by decide +kernel
theorem d_CodeNames_areAllowed_51 : decode b_CodeNames_areAllowed 51 = .ok (.goto (-40), 3) := by decide +kernel
theorem d_CodeNames_areAllowed_54 : decode b_CodeNames_areAllowed 54 = .ok (.iload 4, 2) := by decide +kernel
theorem d_CodeNames_areAllowed_56 : decode b_CodeNames_areAllowed 56 = .ok (.iconst 1, 1) := by decide +kernel
theorem d_CodeNames_areAllowed_57 : decode b_CodeNames_areAllowed 57 = .ok (.if_icmp .ne 14, 3) := by decide +kernel
theorem d_CodeNames_areAllowed_60 : decode b_CodeNames_areAllowed 60 = .ok (.iload_n 3, 1) := by decide +kernel
theorem d_CodeNames_areAllowed_61 : decode b_CodeNames_areAllowed 61 = .ok (.iload_n 2, 1) := by decide +kernel
theorem d_CodeNames_areAllowed_62 : decode b_CodeNames_areAllowed 62 = .ok (.iconst 2, 1) := by decide +kernel
theorem d_CodeNames_areAllowed_63 : decode b_CodeNames_areAllowed 63 = .ok (.idiv, 1) := by decide +kernel
theorem d_CodeNames_areAllowed_64 : decode b_CodeNames_areAllowed 64 = .ok (.if_icmp .ne 7, 3) := by decide +kernel
theorem d_CodeNames_areAllowed_67 : decode b_CodeNames_areAllowed 67 = .ok (.iconst 1, 1) := by decide +kernel
theorem d_CodeNames_areAllowed_68 : decode b_CodeNames_areAllowed 68 = .ok (.goto 4, 3) := by decide +kernel
theorem d_CodeNames_areAllowed_71 : decode b_CodeNames_areAllowed 71 = .ok (.iconst 0, 1) := by decide +kernel
theorem d_CodeNames_areAllowed_72 : decode b_CodeNames_areAllowed 72 = .ok (.istore 5, 2) := by decide +kernel
theorem d_CodeNames_areAllowed_74 : decode b_CodeNames_areAllowed 74 = .ok (.iload_n 3, 1) := by decide +kernel
theorem d_CodeNames_areAllowed_75 : decode b_CodeNames_areAllowed 75 = .ok (.iload_n 2, 1) := by decide +kernel
theorem d_CodeNames_areAllowed_76 : decode b_CodeNames_areAllowed 76 = .ok (.if_icmp .eq 17, 3) := by decide +kernel
theorem d_CodeNames_areAllowed_79 : decode b_CodeNames_areAllowed 79 = .ok (.iload 5, 2) := by decide +kernel
theorem d_CodeNames_areAllowed_81 : decode b_CodeNames_areAllowed 81 = .ok (.ifCond .ne 12, 3) := by decide +kernel
theorem d_CodeNames_areAllowed_84 : decode b_CodeNames_areAllowed 84 = .ok (.iload 4, 2) := by decide +kernel
theorem d_CodeNames_areAllowed_86 : decode b_CodeNames_areAllowed 86 = .ok (.ifCond .ne 11, 3) := by decide +kernel
theorem d_CodeNames_areAllowed_89 : decode b_CodeNames_areAllowed 89 = .ok (.iload_n 1, 1) := by decide +kernel
theorem d_CodeNames_areAllowed_90 : decode b_CodeNames_areAllowed 90 = .ok (.ifCond .ne 7, 3) := by decide +kernel
theorem d_CodeNames_areAllowed_93 : decode b_CodeNames_areAllowed 93 = .ok (.iconst 1, 1) := by decide +kernel
theorem d_CodeNames_areAllowed_94 : decode b_CodeNames_areAllowed 94 = .ok (.goto 4, 3) := by decide +kernel
theorem d_CodeNames_areAllowed_97 : decode b_CodeNames_areAllowed 97 = .ok (.iconst 0, 1) := by decide +kernel
theorem d_CodeNames_areAllowed_98 : decode b_CodeNames_areAllowed 98 = .ok (.ireturn, 1) := by decide +kernel
theorem d_CodeNames_assignCodes_0 : decode b_CodeNames_assignCodes 0 = .ok (.iconst 0, 1) := by decide +kernel
theorem d_CodeNames_assignCodes_1 : decode b_CodeNames_assignCodes 1 = .ok (.istore_n 1, 1) := by decide +kernel
theorem d_CodeNames_assignCodes_2 : decode b_CodeNames_assignCodes 2 = .ok (.iconst 1, 1) := by decide +kernel
theorem d_CodeNames_assignCodes_3 : decode b_CodeNames_assignCodes 3 = .ok (.istore_n 2, 1) := by decide +kernel
theorem d_CodeNames_assignCodes_4 : decode b_CodeNames_assignCodes 4 = .ok (.iload_n 2, 1) := by decide +kernel
theorem d_CodeNames_assignCodes_5 : decode b_CodeNames_assignCodes 5 = .ok (.bipush 15, 2) := by decide +kernel
theorem d_CodeNames_assignCodes_7 : decode b_CodeNames_assignCodes 7 = .ok (.if_icmp .gt 52, 3) := by decide +kernel
theorem d_CodeNames_assignCodes_10 : decode b_CodeNames_assignCodes 10 = .ok (.iload_n 1, 1) := by decide +kernel
theorem d_CodeNames_assignCodes_11 : decode b_CodeNames_assignCodes 11 = .ok (.iconst 1, 1) := by decide +kernel
theorem d_CodeNames_assignCodes_12 : decode b_CodeNames_assignCodes 12 = .ok (.ishl, 1) := by decide +kernel
theorem d_CodeNames_assignCodes_13 : decode b_CodeNames_assignCodes 13 = .ok (.istore_n 1, 1) := by decide +kernel
theorem d_CodeNames_assignCodes_14 : decode b_CodeNames_assignCodes 14 = .ok (.iconst 0, 1) := by decide +kernel
theorem d_CodeNames_assignCodes_15 : decode b_CodeNames_assignCodes 15 = .ok (.istore_n 3, 1) := by decide +kernel
theorem d_CodeNames_assignCodes_16 : decode b_CodeNames_assignCodes 16 = .ok (.iload_n 3, 1) := by decide +kernel
theorem d_CodeNames_assignCodes_17 : decode b_CodeNames_assignCodes 17 = .ok (.aload_n 0, 1) := by decide +kernel
theorem d_CodeNames_assignCodes_18 : decode b_CodeNames_assignCodes 18 = .ok (.getfield 24, 3) := by decide +kernel
theorem d_CodeNames_assignCodes_21 : decode b_CodeNames_assignCodes 21 = .ok (.getfield 32, 3) := by decide +kernel
theorem d_CodeNames_assignCodes_24 : decode b_CodeNames_assignCodes 24 = .ok (.if_icmp .ge 29, 3) := by decide +kernel
theorem d_CodeNames_assignCodes_27 : decode b_CodeNames_assignCodes 27 = .ok (.aload_n 0, 1) := by decide +kernel
theorem d_CodeNames_assignCodes_28 : decode b_CodeNames_assignCodes 28 = .ok (.getfield 9, 3) := by decide +kernel
theorem d_CodeNames_assignCodes_31 : decode b_CodeNames_assignCodes 31 = .ok (.iload_n 3, 1) := by decide +kernel
theorem d_CodeNames_assignCodes_32 : decode b_CodeNames_assignCodes 32 = .ok (.iaload, 1) := by decide +kernel
theorem d_CodeNames_assignCodes_33 : decode b_CodeNames_assignCodes 33 = .ok (.iload_n 2, 1) := by decide +kernel
theorem d_CodeNames_assignCodes_34 : decode b_CodeNames_assignCodes 34 = .ok (.if_icmp .ne 13, 3) := by decide +kernel
theorem d_CodeNames_assignCodes_37 : decode b_CodeNames_assignCodes 37 = .ok (.aload_n 0, 1) := by decide +kernel
theorem d_CodeNames_assignCodes_38 : decode b_CodeNames_assignCodes 38 = .ok (.getfield 15, 3) := by decide +kernel
theorem d_CodeNames_assignCodes_41 : decode b_CodeNames_assignCodes 41 = .ok (.iload_n 3, 1) := by decide +kernel
theorem d_CodeNames_assignCodes_42 : decode b_CodeNames_assignCodes 42 = .ok (.iload_n 1, 1) := by decide +kernel
theorem d_CodeNames_assignCodes_43 : decode b_CodeNames_assignCodes 43 = .ok (.iastore, 1) := by decide +kernel
theorem d_CodeNames_assignCodes_44 : decode b_CodeNames_assignCodes 44 = .ok (.iinc 1 1, 3) := by decide +kernel
theorem d_CodeNames_assignCodes_47 : decode b_CodeNames_assignCodes 47 = .ok (.iinc 3 1, 3) := by decide +kernel
theorem d_CodeNames_assignCodes_50 : decode b_CodeNames_assignCodes 50 = .ok (.goto (-34), 3) := by decide +kernel
theorem d_CodeNames_assignCodes_53 : decode b_CodeNames_assignCodes 53 = .ok (.iinc 2 1, 3) := by decide +kernel
theorem d_CodeNames_assignCodes_56 : decode b_CodeNames_assignCodes 56 = .ok (.goto (-52), 3) := by decide +kernel
theorem d_CodeNames_assignCodes_59 : decode b_CodeNames_assignCodes 59 = .ok (.return_, 1) := by decide +kernel
theorem d_Dictionary_init_0 : decode b_Dictionary_init 0 = .ok (.aload_n 0, 1) := by decide +kernel
theorem d_Dictionary_init_1 : decode b_Dictionary_init 1 = .ok (.invokespecial 3, 3) := by decide +kernel
theorem d_Dictionary_init_4 : decode b_Dictionary_init 4 = .ok (.aload_n 0, 1) := by decide +kernel
theorem d_Dictionary_init_5 : decode b_Dictionary_init 5 = .ok (.bipush 16, 2) := by decide +kernel
theorem d_Dictionary_init_7 : decode b_Dictionary_init 7 = .ok (.newarray .int, 2) := by decide +kernel
theorem d_Dictionary_init_9 : decode b_Dictionary_init 9 = .ok (.putfield 9, 3) := by decide +kernel
theorem d_Dictionary_init_12 : decode b_Dictionary_init 12 = .ok (.aload_n 0, 1) := by decide +kernel
theorem d_Dictionary_init_13 : decode b_Dictionary_init 13 = .ok (.bipush 16, 2) := by decide +kernel
theorem d_Dictionary_init_15 : decode b_Dictionary_init 15 = .ok (.newarray .int, 2) := by decide +kernel
theorem d_Dictionary_init_17 : decode b_Dictionary_init 17 = .ok (.putfield 15, 3) := by decide +kernel
theorem d_Dictionary_init_20 : decode b_Dictionary_init 20 = .ok (.aload_n 0, 1) := by decide +kernel
theorem d_Dictionary_init_21 : decode b_Dictionary_init 21 = .ok (.bipush 16, 2) := by decide +kernel
theorem d_Dictionary_init_23 : decode b_Dictionary_init 23 = .ok (.newarray .long, 2) := by decide +kernel
theorem d_Dictionary_init_25 : decode b_Dictionary_init 25 = .ok (.putfield 18, 3) := by decide +kernel
theorem d_Dictionary_init_28 : decode b_Dictionary_init 28 = .ok (.aload_n 0, 1) := by decide +kernel
theorem d_Dictionary_init_29 : decode b_Dictionary_init 29 = .ok (.iconst 0, 1) := by decide +kernel
theorem d_Dictionary_init_30 : decode b_Dictionary_init 30 = .ok (.putfield 22, 3) := by decide +kernel
theorem d_Dictionary_init_33 : decode b_Dictionary_init 33 = .ok (.return_, 1) := by decide +kernel
theorem d_Dictionary_add_0 : decode b_Dictionary_add 0 = .ok (.aload_n 0, 1) := by decide +kernel
theorem d_Dictionary_add_1 : decode b_Dictionary_add 1 = .ok (.getfield 9, 3) := by decide +kernel
theorem d_Dictionary_add_4 : decode b_Dictionary_add 4 = .ok (.aload_n 0, 1) := by decide +kernel
theorem d_Dictionary_add_5 : decode b_Dictionary_add 5 = .ok (.getfield 22, 3) := by decide +kernel
theorem d_Dictionary_add_8 : decode b_Dictionary_add 8 = .ok (.iload_n 1, 1) := by decide +kernel
theorem d_Dictionary_add_9 : decode b_Dictionary_add 9 = .ok (.iastore, 1) := by decide +kernel
theorem d_Dictionary_add_10 : decode b_Dictionary_add 10 = .ok (.aload_n 0, 1) := by decide +kernel
theorem d_Dictionary_add_11 : decode b_Dictionary_add 11 = .ok (.getfield 15, 3) := by decide +kernel
theorem d_Dictionary_add_14 : decode b_Dictionary_add 14 = .ok (.aload_n 0, 1) := by decide +kernel
theorem d_Dictionary_add_15 : decode b_Dictionary_add 15 = .ok (.getfield 22, 3) := by decide +kernel
theorem d_Dictionary_add_18 : decode b_Dictionary_add 18 = .ok (.iload_n 2, 1) := by decide +kernel
theorem d_Dictionary_add_19 : decode b_Dictionary_add 19 = .ok (.iastore, 1) := by decide +kernel
theorem d_Dictionary_add_20 : decode b_Dictionary_add 20 = .ok (.aload_n 0, 1) := by decide +kernel
theorem d_Dictionary_add_21 : decode b_Dictionary_add 21 = .ok (.getfield 18, 3) := by decide +kernel
theorem d_Dictionary_add_24 : decode b_Dictionary_add 24 = .ok (.aload_n 0, 1) := by decide +kernel
theorem d_Dictionary_add_25 : decode b_Dictionary_add 25 = .ok (.getfield 22, 3) := by decide +kernel
theorem d_Dictionary_add_28 : decode b_Dictionary_add 28 = .ok (.lconst 0, 1) := by decide +kernel
theorem d_Dictionary_add_29 : decode b_Dictionary_add 29 = .ok (.lastore, 1) := by decide +kernel
theorem d_Dictionary_add_30 : decode b_Dictionary_add 30 = .ok (.aload_n 0, 1) := by decide +kernel
theorem d_Dictionary_add_31 : decode b_Dictionary_add 31 = .ok (.dup, 1) := by decide +kernel
theorem d_Dictionary_add_32 : decode b_Dictionary_add 32 = .ok (.getfield 22, 3) := by decide +kernel
theorem d_Dictionary_add_35 : decode b_Dictionary_add 35 = .ok (.iconst 1, 1) := by decide +kernel
theorem d_Dictionary_add_36 : decode b_Dictionary_add 36 = .ok (.iadd, 1) := by decide +kernel
theorem d_Dictionary_add_37 : decode b_Dictionary_add 37 = .ok (.putfield 22, 3) := by decide +kernel
theorem d_Dictionary_add_40 : decode b_Dictionary_add 40 = .ok (.aload_n 0, 1) := by decide +kernel
theorem d_Dictionary_add_41 : decode b_Dictionary_add 41 = .ok (.getfield 22, 3) := by decide +kernel
theorem d_Dictionary_add_44 : decode b_Dictionary_add 44 = .ok (.iconst 1, 1) := by decide +kernel
theorem d_Dictionary_add_45 : decode b_Dictionary_add 45 = .ok (.isub, 1) := by decide +kernel
theorem d_Dictionary_add_46 : decode b_Dictionary_add 46 = .ok (.ireturn, 1) := by decide +kernel
theorem d_Dictionary_has_0 : decode b_Dictionary_has 0 = .ok (.iload_n 1, 1) := by decide +kernel
theorem d_Dictionary_has_1 : decode b_Dictionary_has 1 = .ok (.iconst 0, 1) := by decide +kernel
theorem d_Dictionary_has_2 : decode b_Dictionary_has 2 = .ok (.aload_n 0, 1) := by decide +kernel
theorem d_Dictionary_has_3 : decode b_Dictionary_has 3 = .ok (.getfield 22, 3) := by decide +kernel
theorem d_Dictionary_has_6 : decode b_Dictionary_has 6 = .ok (.iconst 1, 1) := by decide +kernel
theorem d_Dictionary_has_7 : decode b_Dictionary_has 7 = .ok (.isub, 1) := by decide +kernel
theorem d_Dictionary_has_8 : decode b_Dictionary_has 8 = .ok (.invokestatic 26, 3) := by decide +kernel
theorem d_Dictionary_has_11 : decode b_Dictionary_has 11 = .ok (.ireturn, 1) := by decide +kernel
theorem d_Dictionary_hasSample_0 : decode b_Dictionary_hasSample 0 = .ok (.iload_n 2, 1) := by decide +kernel
theorem d_Dictionary_hasSample_1 : decode b_Dictionary_hasSample 1 = .ok (.iconst 0, 1) := by decide +kernel
theorem d_Dictionary_hasSample_2 : decode b_Dictionary_hasSample 2 = .ok (.aload_n 0, 1) := by decide +kernel
theorem d_Dictionary_hasSample_3 : decode b_Dictionary_hasSample 3 = .ok (.getfield 9, 3) := by decide +kernel
theorem d_Dictionary_hasSample_6 : decode b_Dictionary_hasSample 6 = .ok (.iload_n 1, 1) := by decide +kernel
theorem d_Dictionary_hasSample_7 : decode b_Dictionary_hasSample 7 = .ok (.iaload, 1) := by decide +kernel
theorem d_Dictionary_hasSample_8 : decode b_Dictionary_hasSample 8 = .ok (.iconst 1, 1) := by decide +kernel
theorem d_Dictionary_hasSample_9 : decode b_Dictionary_hasSample 9 = .ok (.isub, 1) := by decide +kernel
theorem d_Dictionary_hasSample_10 : decode b_Dictionary_hasSample 10 = .ok (.invokestatic 26, 3) := by decide +kernel
theorem d_Dictionary_hasSample_13 : decode b_Dictionary_hasSample 13 = .ok (.ifCond .eq 23, 3) := by decide +kernel
theorem d_Dictionary_hasSample_16 : decode b_Dictionary_hasSample 16 = .ok (.iload_n 3, 1) := by decide +kernel
theorem d_Dictionary_hasSample_17 : decode b_Dictionary_hasSample 17 = .ok (.iconst 0, 1) := by decide +kernel
theorem d_Dictionary_hasSample_18 : decode b_Dictionary_hasSample 18 = .ok (.aload_n 0, 1) := by decide +kernel
theorem d_Dictionary_hasSample_19 : decode b_Dictionary_hasSample 19 = .ok (.getfield 15, 3) := by decide +kernel
theorem d_Dictionary_hasSample_22 : decode b_Dictionary_hasSample 22 = .ok (.iload_n 1, 1) := by decide +kernel
theorem d_Dictionary_hasSample_23 : decode b_Dictionary_hasSample 23 = .ok (.iaload, 1) := by decide +kernel
theorem d_Dictionary_hasSample_24 : decode b_Dictionary_hasSample 24 = .ok (.iconst 1, 1) := by decide +kernel
theorem d_Dictionary_hasSample_25 : decode b_Dictionary_hasSample 25 = .ok (.isub, 1) := by decide +kernel
theorem d_Dictionary_hasSample_26 : decode b_Dictionary_hasSample 26 = .ok (.invokestatic 26, 3) := by decide +kernel
theorem d_Dictionary_hasSample_29 : decode b_Dictionary_hasSample 29 = .ok (.ifCond .eq 7, 3) := by decide +kernel
theorem d_Dictionary_hasSample_32 : decode b_Dictionary_hasSample 32 = .ok (.iconst 1, 1) := by decide +kernel
theorem d_Dictionary_hasSample_33 : decode b_Dictionary_hasSample 33 = .ok (.goto 4, 3) := by decide +kernel
theorem d_Dictionary_hasSample_36 : decode b_Dictionary_hasSample 36 = .ok (.iconst 0, 1) := by decide +kernel
theorem d_Dictionary_hasSample_37 : decode b_Dictionary_hasSample 37 = .ok (.ireturn, 1) := by decide +kernel
theorem d_Dictionary_sampleNumber_0 : decode b_Dictionary_sampleNumber 0 = .ok (.iload_n 3, 1) := by decide +kernel
theorem d_Dictionary_sampleNumber_1 : decode b_Dictionary_sampleNumber 1 = .ok (.aload_n 0, 1) := by decide +kernel
theorem d_Dictionary_sampleNumber_2 : decode b_Dictionary_sampleNumber 2 = .ok (.getfield 9, 3) := by decide +kernel
theorem d_Dictionary_sampleNumber_5 : decode b_Dictionary_sampleNumber 5 = .ok (.iload_n 1, 1) := by decide +kernel
theorem d_Dictionary_sampleNumber_6 : decode b_Dictionary_sampleNumber 6 = .ok (.iaload, 1) := by decide +kernel
theorem d_Dictionary_sampleNumber_7 : decode b_Dictionary_sampleNumber 7 = .ok (.imul, 1) := by decide +kernel
theorem d_Dictionary_sampleNumber_8 : decode b_Dictionary_sampleNumber 8 = .ok (.iload_n 2, 1) := by decide +kernel
theorem d_Dictionary_sampleNumber_9 : decode b_Dictionary_sampleNumber 9 = .ok (.iadd, 1) := by decide +kernel
theorem d_Dictionary_sampleNumber_10 : decode b_Dictionary_sampleNumber 10 = .ok (.ireturn, 1) := by decide +kernel
theorem d_Dictionary_sampleCount_0 : decode b_Dictionary_sampleCount 0 = .ok (.aload_n 0, 1) := by decide +kernel
theorem d_Dictionary_sampleCount_1 : decode b_Dictionary_sampleCount 1 = .ok (.getfield 9, 3) := by decide +kernel
theorem d_Dictionary_sampleCount_4 : decode b_Dictionary_sampleCount 4 = .ok (.iload_n 1, 1) := by decide +kernel
theorem d_Dictionary_sampleCount_5 : decode b_Dictionary_sampleCount 5 = .ok (.iaload, 1) := by decide +kernel
theorem d_Dictionary_sampleCount_6 : decode b_Dictionary_sampleCount 6 = .ok (.aload_n 0, 1) := by decide +kernel
theorem d_Dictionary_sampleCount_7 : decode b_Dictionary_sampleCount 7 = .ok (.getfield 15, 3) := by decide +kernel
theorem d_Dictionary_sampleCount_10 : decode b_Dictionary_sampleCount 10 = .ok (.iload_n 1, 1) := by decide +kernel
theorem d_Dictionary_sampleCount_11 : decode b_Dictionary_sampleCount 11 = .ok (.iaload, 1) := by decide +kernel
theorem d_Dictionary_sampleCount_12 : decode b_Dictionary_sampleCount 12 = .ok (.imul, 1) := by decide +kernel
theorem d_Dictionary_sampleCount_13 : decode b_Dictionary_sampleCount 13 = .ok (.ireturn, 1) := by decide +kernel
theorem d_FrontNames_init_0 : decode b_FrontNames_init 0 = .ok (.aload_n 0, 1) := by decide +kernel
theorem d_FrontNames_init_1 : decode b_FrontNames_init 1 = .ok (.invokespecial 3, 3) := by decide +kernel
theorem d_FrontNames_init_4 : decode b_FrontNames_init 4 = .ok (.aload_n 0, 1) := by decide +kernel
theorem d_FrontNames_init_5 : decode b_FrontNames_init 5 = .ok (.bipush 16, 2) := by decide +kernel
theorem d_FrontNames_init_7 : decode b_FrontNames_init 7 = .ok (.newarray .int, 2) := by decide +kernel
theorem d_FrontNames_init_9 : decode b_FrontNames_init 9 = .ok (.putfield 9, 3) := by decide +kernel
theorem d_FrontNames_init_12 : decode b_FrontNames_init 12 = .ok (.aload_n 0, 1) := by decide +kernel
theorem d_FrontNames_init_13 : decode b_FrontNames_init 13 = .ok (.aload_n 1, 1) := by decide +kernel
theorem d_FrontNames_init_14 : decode b_FrontNames_init 14 = .ok (.putfield 15, 3) := by decide +kernel
theorem d_FrontNames_init_17 : decode b_FrontNames_init 17 = .ok (.return_, 1) := by decide +kernel
theorem d_FrontNames_suit_0 : decode b_FrontNames_suit 0 = .ok (.return_, 1) := by decide +kernel
theorem d_FrontNames_tellTable_0 : decode b_FrontNames_tellTable 0 = .ok (.aload_n 0, 1) := by decide +kernel
theorem d_FrontNames_tellTable_1 : decode b_FrontNames_tellTable 1 = .ok (.invokevirtual 19, 3) := by decide +kernel
theorem d_FrontNames_tellTable_4 : decode b_FrontNames_tellTable 4 = .ok (.return_, 1) := by decide +kernel
theorem d_FrontNames_tellName_0 : decode b_FrontNames_tellName 0 = .ok (.iconst 0, 1) := by decide +kernel
theorem d_FrontNames_tellName_1 : decode b_FrontNames_tellName 1 = .ok (.istore_n 3, 1) := by decide +kernel
theorem d_FrontNames_tellName_2 : decode b_FrontNames_tellName 2 = .ok (.iload_n 3, 1) := by decide +kernel
theorem d_FrontNames_tellName_3 : decode b_FrontNames_tellName 3 = .ok (.aload_n 0, 1) := by decide +kernel
theorem d_FrontNames_tellName_4 : decode b_FrontNames_tellName 4 = .ok (.getfield 15, 3) := by decide +kernel
theorem d_FrontNames_tellName_7 : decode b_FrontNames_tellName 7 = .ok (.getfield 22, 3) := by decide +kernel
theorem d_FrontNames_tellName_10 : decode b_FrontNames_tellName 10 = .ok (.iconst 1, 1) := by decide +kernel
theorem d_FrontNames_tellName_11 : decode b_FrontNames_tellName 11 = .ok (.isub, 1) := by decide +kernel
theorem d_FrontNames_tellName_12 : decode b_FrontNames_tellName 12 = .ok (.if_icmp .ge 19, 3) := by decide +kernel
theorem d_FrontNames_tellName_15 : decode b_FrontNames_tellName 15 = .ok (.aload_n 0, 1) := by decide +kernel
theorem d_FrontNames_tellName_16 : decode b_FrontNames_tellName 16 = .ok (.getfield 9, 3) := by decide +kernel
theorem d_FrontNames_tellName_19 : decode b_FrontNames_tellName 19 = .ok (.iload_n 3, 1) := by decide +kernel
theorem d_FrontNames_tellName_20 : decode b_FrontNames_tellName 20 = .ok (.iaload, 1) := by decide +kernel
theorem d_FrontNames_tellName_21 : decode b_FrontNames_tellName 21 = .ok (.iload_n 1, 1) := by decide +kernel
theorem d_FrontNames_tellName_22 : decode b_FrontNames_tellName 22 = .ok (.if_icmp .eq 9, 3) := by decide +kernel
theorem d_FrontNames_tellName_25 : decode b_FrontNames_tellName 25 = .ok (.iinc 3 1, 3) := by decide +kernel
theorem d_FrontNames_tellName_28 : decode b_FrontNames_tellName 28 = .ok (.goto (-26), 3) := by decide +kernel
theorem d_FrontNames_tellName_31 : decode b_FrontNames_tellName 31 = .ok (.aload_n 2, 1) := by decide +kernel
theorem d_FrontNames_tellName_32 : decode b_FrontNames_tellName 32 = .ok (.iload_n 3, 1) := by decide +kernel
theorem d_FrontNames_tellName_33 : decode b_FrontNames_tellName 33 = .ok (.invokevirtual 28, 3) := by decide +kernel
theorem d_FrontNames_tellName_36 : decode b_FrontNames_tellName 36 = .ok (.aload_n 0, 1) := by decide +kernel
theorem d_FrontNames_tellName_37 : decode b_FrontNames_tellName 37 = .ok (.iload_n 3, 1) := by decide +kernel
theorem d_FrontNames_tellName_38 : decode b_FrontNames_tellName 38 = .ok (.invokevirtual 34, 3) := by decide +kernel
theorem d_FrontNames_tellName_41 : decode b_FrontNames_tellName 41 = .ok (.return_, 1) := by decide +kernel
theorem d_FrontNames_readTable_0 : decode b_FrontNames_readTable 0 = .ok (.aload_n 0, 1) := by decide +kernel
theorem d_FrontNames_readTable_1 : decode b_FrontNames_readTable 1 = .ok (.invokevirtual 19, 3) := by decide +kernel
theorem d_FrontNames_readTable_4 : decode b_FrontNames_readTable 4 = .ok (.return_, 1) := by decide +kernel
theorem d_FrontNames_readName_0 : decode b_FrontNames_readName 0 = .ok (.aload_n 1, 1) := by decide +kernel
theorem d_FrontNames_readName_1 : decode b_FrontNames_readName 1 = .ok (.invokevirtual 37, 3) := by decide +kernel
theorem d_FrontNames_readName_4 : decode b_FrontNames_readName 4 = .ok (.istore_n 2, 1) := by decide +kernel
theorem d_FrontNames_readName_5 : decode b_FrontNames_readName 5 = .ok (.aload_n 1, 1) := by decide +kernel
theorem d_FrontNames_readName_6 : decode b_FrontNames_readName 6 = .ok (.invokevirtual 43, 3) := by decide +kernel
theorem d_FrontNames_readName_9 : decode b_FrontNames_readName 9 = .ok (.ifCond .eq 5, 3) := by decide +kernel
theorem d_FrontNames_readName_12 : decode b_FrontNames_readName 12 = .ok (.iconst 0, 1) := by decide +kernel
theorem d_FrontNames_readName_13 : decode b_FrontNames_readName 13 = .ok (.ireturn, 1) := by decide +kernel
theorem d_FrontNames_readName_14 : decode b_FrontNames_readName 14 = .ok (.iload_n 2, 1) := by decide +kernel
theorem d_FrontNames_readName_15 : decode b_FrontNames_readName 15 = .ok (.aload_n 0, 1) := by decide +kernel
theorem d_FrontNames_readName_16 : decode b_FrontNames_readName 16 = .ok (.getfield 15, 3) := by decide +kernel
theorem d_FrontNames_readName_19 : decode b_FrontNames_readName 19 = .ok (.getfield 22, 3) := by decide +kernel
theorem d_FrontNames_readName_22 : decode b_FrontNames_readName 22 = .ok (.if_icmp .lt 10, 3) := by decide +kernel
theorem d_FrontNames_readName_25 : decode b_FrontNames_readName 25 = .ok (.aload_n 1, 1) := by decide +kernel
theorem d_FrontNames_readName_26 : decode b_FrontNames_readName 26 = .ok (.iconst 5, 1) := by decide +kernel
theorem d_FrontNames_readName_27 : decode b_FrontNames_readName 27 = .ok (.invokevirtual 47, 3) := by decide +kernel
theorem d_FrontNames_readName_30 : decode b_FrontNames_readName 30 = .ok (.iconst 0, 1) := by decide +kernel
theorem d_FrontNames_readName_31 : decode b_FrontNames_readName 31 = .ok (.ireturn, 1) := by decide +kernel
theorem d_FrontNames_readName_32 : decode b_FrontNames_readName 32 = .ok (.aload_n 0, 1) := by decide +kernel
theorem d_FrontNames_readName_33 : decode b_FrontNames_readName 33 = .ok (.iload_n 2, 1) := by decide +kernel
theorem d_FrontNames_readName_34 : decode b_FrontNames_readName 34 = .ok (.invokevirtual 34, 3) := by decide +kernel
theorem d_FrontNames_readName_37 : decode b_FrontNames_readName 37 = .ok (.aload_n 0, 1) := by decide +kernel
theorem d_FrontNames_readName_38 : decode b_FrontNames_readName 38 = .ok (.getfield 9, 3) := by decide +kernel
theorem d_FrontNames_readName_41 : decode b_FrontNames_readName 41 = .ok (.iconst 0, 1) := by decide +kernel
theorem d_FrontNames_readName_42 : decode b_FrontNames_readName 42 = .ok (.iaload, 1) := by decide +kernel
theorem d_FrontNames_readName_43 : decode b_FrontNames_readName 43 = .ok (.ireturn, 1) := by decide +kernel
theorem d_FrontNames_putByNumber_0 : decode b_FrontNames_putByNumber 0 = .ok (.iconst 0, 1) := by decide +kernel
theorem d_FrontNames_putByNumber_1 : decode b_FrontNames_putByNumber 1 = .ok (.istore_n 1, 1) := by decide +kernel
theorem d_FrontNames_putByNumber_2 : decode b_FrontNames_putByNumber 2 = .ok (.iload_n 1, 1) := by decide +kernel
theorem d_FrontNames_putByNumber_3 : decode b_FrontNames_putByNumber 3 = .ok (.bipush 16, 2) := by decide +kernel
theorem d_FrontNames_putByNumber_5 : decode b_FrontNames_putByNumber 5 = .ok (.if_icmp .ge 16, 3) := by decide +kernel
theorem d_FrontNames_putByNumber_8 : decode b_FrontNames_putByNumber 8 = .ok (.aload_n 0, 1) := by decide +kernel
theorem d_FrontNames_putByNumber_9 : decode b_FrontNames_putByNumber 9 = .ok (.getfield 9, 3) := by decide +kernel
theorem d_FrontNames_putByNumber_12 : decode b_FrontNames_putByNumber 12 = .ok (.iload_n 1, 1) := by decide +kernel
theorem d_FrontNames_putByNumber_13 : decode b_FrontNames_putByNumber 13 = .ok (.iload_n 1, 1) := by decide +kernel
theorem d_FrontNames_putByNumber_14 : decode b_FrontNames_putByNumber 14 = .ok (.iastore, 1) := by decide +kernel
theorem d_FrontNames_putByNumber_15 : decode b_FrontNames_putByNumber 15 = .ok (.iinc 1 1, 3) := by decide +kernel
theorem d_FrontNames_putByNumber_18 : decode b_FrontNames_putByNumber 18 = .ok (.goto (-16), 3) := by decide +kernel
theorem d_FrontNames_putByNumber_21 : decode b_FrontNames_putByNumber 21 = .ok (.return_, 1) := by decide +kernel
theorem d_FrontNames_toFront_0 : decode b_FrontNames_toFront 0 = .ok (.aload_n 0, 1) := by decide +kernel
theorem d_FrontNames_toFront_1 : decode b_FrontNames_toFront 1 = .ok (.getfield 9, 3) := by decide +kernel
theorem d_FrontNames_toFront_4 : decode b_FrontNames_toFront 4 = .ok (.iload_n 1, 1) := by decide +kernel
theorem d_FrontNames_toFront_5 : decode b_FrontNames_toFront 5 = .ok (.iaload, 1) := by decide +kernel
theorem d_FrontNames_toFront_6 : decode b_FrontNames_toFront 6 = .ok (.istore_n 2, 1) := by decide +kernel
theorem d_FrontNames_toFront_7 : decode b_FrontNames_toFront 7 = .ok (.iload_n 1, 1) := by decide +kernel
theorem d_FrontNames_toFront_8 : decode b_FrontNames_toFront 8 = .ok (.istore_n 3, 1) := by decide +kernel
theorem d_FrontNames_toFront_9 : decode b_FrontNames_toFront 9 = .ok (.iload_n 3, 1) := by decide +kernel
theorem d_FrontNames_toFront_10 : decode b_FrontNames_toFront 10 = .ok (.ifCond .le 23, 3) := by decide +kernel
theorem d_FrontNames_toFront_13 : decode b_FrontNames_toFront 13 = .ok (.aload_n 0, 1) := by decide +kernel
theorem d_FrontNames_toFront_14 : decode b_FrontNames_toFront 14 = .ok (.getfield 9, 3) := by decide +kernel
theorem d_FrontNames_toFront_17 : decode b_FrontNames_toFront 17 = .ok (.iload_n 3, 1) := by decide +kernel
theorem d_FrontNames_toFront_18 : decode b_FrontNames_toFront 18 = .ok (.aload_n 0, 1) := by decide +kernel
theorem d_FrontNames_toFront_19 : decode b_FrontNames_toFront 19 = .ok (.getfield 9, 3) := by decide +kernel
theorem d_FrontNames_toFront_22 : decode b_FrontNames_toFront 22 = .ok (.iload_n 3, 1) := by decide +kernel
theorem d_FrontNames_toFront_23 : decode b_FrontNames_toFront 23 = .ok (.iconst 1, 1) := by decide +kernel
theorem d_FrontNames_toFront_24 : decode b_FrontNames_toFront 24 = .ok (.isub, 1) := by decide +kernel
theorem d_FrontNames_toFront_25 : decode b_FrontNames_toFront 25 = .ok (.iaload, 1) := by decide +kernel
theorem d_FrontNames_toFront_26 : decode b_FrontNames_toFront 26 = .ok (.iastore, 1) := by decide +kernel
theorem d_FrontNames_toFront_27 : decode b_FrontNames_toFront 27 = .ok (.iinc 3 (-1), 3) := by decide +kernel
theorem d_FrontNames_toFront_30 : decode b_FrontNames_toFront 30 = .ok (.goto (-21), 3) := by decide +kernel
theorem d_FrontNames_toFront_33 : decode b_FrontNames_toFront 33 = .ok (.aload_n 0, 1) := by decide +kernel
theorem d_FrontNames_toFront_34 : decode b_FrontNames_toFront 34 = .ok (.getfield 9, 3) := by decide +kernel
theorem d_FrontNames_toFront_37 : decode b_FrontNames_toFront 37 = .ok (.iconst 0, 1) := by decide +kernel
theorem d_FrontNames_toFront_38 : decode b_FrontNames_toFront 38 = .ok (.iload_n 2, 1) := by decide +kernel
theorem d_FrontNames_toFront_39 : decode b_FrontNames_toFront 39 = .ok (.iastore, 1) := by decide +kernel
theorem d_FrontNames_toFront_40 : decode b_FrontNames_toFront 40 = .ok (.return_, 1) := by decide +kernel
theorem d_Layout_init_0 : decode b_Layout_init 0 = .ok (.aload_n 0, 1) := by decide +kernel
theorem d_Layout_init_1 : decode b_Layout_init 1 = .ok (.invokespecial 3, 3) := by decide +kernel
theorem d_Layout_init_4 : decode b_Layout_init 4 = .ok (.aload_n 0, 1) := by decide +kernel
theorem d_Layout_init_5 : decode b_Layout_init 5 = .ok (.iconst 4, 1) := by decide +kernel
theorem d_Layout_init_6 : decode b_Layout_init 6 = .ok (.newarray .int, 2) := by decide +kernel
theorem d_Layout_init_8 : decode b_Layout_init 8 = .ok (.putfield 9, 3) := by decide +kernel
theorem d_Layout_init_11 : decode b_Layout_init 11 = .ok (.aload_n 0, 1) := by decide +kernel
theorem d_Layout_init_12 : decode b_Layout_init 12 = .ok (.bipush 40, 2) := by decide +kernel
theorem d_Layout_init_14 : decode b_Layout_init 14 = .ok (.newarray .int, 2) := by decide +kernel
theorem d_Layout_init_16 : decode b_Layout_init 16 = .ok (.putfield 15, 3) := by decide +kernel
theorem d_Layout_init_19 : decode b_Layout_init 19 = .ok (.aload_n 0, 1) := by decide +kernel
theorem d_Layout_init_20 : decode b_Layout_init 20 = .ok (.bipush 40, 2) := by decide +kernel
theorem d_Layout_init_22 : decode b_Layout_init 22 = .ok (.newarray .int, 2) := by decide +kernel
theorem d_Layout_init_24 : decode b_Layout_init 24 = .ok (.putfield 18, 3) := by decide +kernel
theorem d_Layout_init_27 : decode b_Layout_init 27 = .ok (.aload_n 0, 1) := by decide +kernel
theorem d_Layout_init_28 : decode b_Layout_init 28 = .ok (.bipush 40, 2) := by decide +kernel
theorem d_Layout_init_30 : decode b_Layout_init 30 = .ok (.newarray .int, 2) := by decide +kernel
theorem d_Layout_init_32 : decode b_Layout_init 32 = .ok (.putfield 21, 3) := by decide +kernel
theorem d_Layout_init_35 : decode b_Layout_init 35 = .ok (.aload_n 0, 1) := by decide +kernel
theorem d_Layout_init_36 : decode b_Layout_init 36 = .ok (.bipush 40, 2) := by decide +kernel
theorem d_Layout_init_38 : decode b_Layout_init 38 = .ok (.newarray .long, 2) := by decide +kernel
theorem d_Layout_init_40 : decode b_Layout_init 40 = .ok (.putfield 24, 3) := by decide +kernel
theorem d_Layout_init_43 : decode b_Layout_init 43 = .ok (.aload_n 0, 1) := by decide +kernel
theorem d_Layout_init_44 : decode b_Layout_init 44 = .ok (.bipush 40, 2) := by decide +kernel
theorem d_Layout_init_46 : decode b_Layout_init 46 = .ok (.newarray .int, 2) := by decide +kernel
theorem d_Layout_init_48 : decode b_Layout_init 48 = .ok (.putfield 28, 3) := by decide +kernel
theorem d_Layout_init_51 : decode b_Layout_init 51 = .ok (.aload_n 0, 1) := by decide +kernel
theorem d_Layout_init_52 : decode b_Layout_init 52 = .ok (.iconst 0, 1) := by decide +kernel
theorem d_Layout_init_53 : decode b_Layout_init 53 = .ok (.putfield 31, 3) := by decide +kernel
theorem d_Layout_init_56 : decode b_Layout_init 56 = .ok (.aload_n 0, 1) := by decide +kernel
theorem d_Layout_init_57 : decode b_Layout_init 57 = .ok (.aload_n 1, 1) := by decide +kernel
theorem d_Layout_init_58 : decode b_Layout_init 58 = .ok (.putfield 35, 3) := by decide +kernel
theorem d_Layout_init_61 : decode b_Layout_init 61 = .ok (.return_, 1) := by decide +kernel
theorem d_Layout_empty_0 : decode b_Layout_empty 0 = .ok (.aload_n 0, 1) := by decide +kernel
theorem d_Layout_empty_1 : decode b_Layout_empty 1 = .ok (.iconst 0, 1) := by decide +kernel
theorem d_Layout_empty_2 : decode b_Layout_empty 2 = .ok (.putfield 31, 3) := by decide +kernel
theorem d_Layout_empty_5 : decode b_Layout_empty 5 = .ok (.iconst 0, 1) := by decide +kernel
theorem d_Layout_empty_6 : decode b_Layout_empty 6 = .ok (.istore_n 1, 1) := by decide +kernel
theorem d_Layout_empty_7 : decode b_Layout_empty 7 = .ok (.iload_n 1, 1) := by decide +kernel
theorem d_Layout_empty_8 : decode b_Layout_empty 8 = .ok (.iconst 4, 1) := by decide +kernel
theorem d_Layout_empty_9 : decode b_Layout_empty 9 = .ok (.if_icmp .ge 16, 3) := by decide +kernel
theorem d_Layout_empty_12 : decode b_Layout_empty 12 = .ok (.aload_n 0, 1) := by decide +kernel
theorem d_Layout_empty_13 : decode b_Layout_empty 13 = .ok (.getfield 9, 3) := by decide +kernel
theorem d_Layout_empty_16 : decode b_Layout_empty 16 = .ok (.iload_n 1, 1) := by decide +kernel
theorem d_Layout_empty_17 : decode b_Layout_empty 17 = .ok (.iconst 0, 1) := by decide +kernel
theorem d_Layout_empty_18 : decode b_Layout_empty 18 = .ok (.iastore, 1) := by decide +kernel
theorem d_Layout_empty_19 : decode b_Layout_empty 19 = .ok (.iinc 1 1, 3) := by decide +kernel
theorem d_Layout_empty_22 : decode b_Layout_empty 22 = .ok (.goto (-15), 3) := by decide +kernel
theorem d_Layout_empty_25 : decode b_Layout_empty 25 = .ok (.return_, 1) := by decide +kernel
theorem d_Layout_has_0 : decode b_Layout_has 0 = .ok (.iload_n 1, 1) := by decide +kernel
theorem d_Layout_has_1 : decode b_Layout_has 1 = .ok (.iconst 0, 1) := by decide +kernel
theorem d_Layout_has_2 : decode b_Layout_has 2 = .ok (.aload_n 0, 1) := by decide +kernel
theorem d_Layout_has_3 : decode b_Layout_has 3 = .ok (.getfield 31, 3) := by decide +kernel
theorem d_Layout_has_6 : decode b_Layout_has 6 = .ok (.iconst 1, 1) := by decide +kernel
theorem d_Layout_has_7 : decode b_Layout_has 7 = .ok (.isub, 1) := by decide +kernel
theorem d_Layout_has_8 : decode b_Layout_has 8 = .ok (.invokestatic 39, 3) := by decide +kernel
theorem d_Layout_has_11 : decode b_Layout_has 11 = .ok (.ireturn, 1) := by decide +kernel
theorem d_Layout_add_0 : decode b_Layout_add 0 = .ok (.aload_n 0, 1) := by decide +kernel
theorem d_Layout_add_1 : decode b_Layout_add 1 = .ok (.getfield 15, 3) := by decide +kernel
theorem d_Layout_add_4 : decode b_Layout_add 4 = .ok (.aload_n 0, 1) := by decide +kernel
theorem d_Layout_add_5 : decode b_Layout_add 5 = .ok (.getfield 31, 3) := by decide +kernel
theorem d_Layout_add_8 : decode b_Layout_add 8 = .ok (.iload_n 1, 1) := by decide +kernel
theorem d_Layout_add_9 : decode b_Layout_add 9 = .ok (.iastore, 1) := by decide +kernel
theorem d_Layout_add_10 : decode b_Layout_add 10 = .ok (.aload_n 0, 1) := by decide +kernel
theorem d_Layout_add_11 : decode b_Layout_add 11 = .ok (.getfield 18, 3) := by decide +kernel
theorem d_Layout_add_14 : decode b_Layout_add 14 = .ok (.aload_n 0, 1) := by decide +kernel
theorem d_Layout_add_15 : decode b_Layout_add 15 = .ok (.getfield 31, 3) := by decide +kernel
theorem d_Layout_add_18 : decode b_Layout_add 18 = .ok (.iload_n 2, 1) := by decide +kernel
theorem d_Layout_add_19 : decode b_Layout_add 19 = .ok (.iastore, 1) := by decide +kernel
theorem d_Layout_add_20 : decode b_Layout_add 20 = .ok (.aload_n 0, 1) := by decide +kernel
theorem d_Layout_add_21 : decode b_Layout_add 21 = .ok (.getfield 21, 3) := by decide +kernel
theorem d_Layout_add_24 : decode b_Layout_add 24 = .ok (.aload_n 0, 1) := by decide +kernel
theorem d_Layout_add_25 : decode b_Layout_add 25 = .ok (.getfield 31, 3) := by decide +kernel
theorem d_Layout_add_28 : decode b_Layout_add 28 = .ok (.iload_n 3, 1) := by decide +kernel
theorem d_Layout_add_29 : decode b_Layout_add 29 = .ok (.iastore, 1) := by decide +kernel
theorem d_Layout_add_30 : decode b_Layout_add 30 = .ok (.aload_n 0, 1) := by decide +kernel
theorem d_Layout_add_31 : decode b_Layout_add 31 = .ok (.getfield 24, 3) := by decide +kernel
theorem d_Layout_add_34 : decode b_Layout_add 34 = .ok (.aload_n 0, 1) := by decide +kernel
theorem d_Layout_add_35 : decode b_Layout_add 35 = .ok (.getfield 31, 3) := by decide +kernel
theorem d_Layout_add_38 : decode b_Layout_add 38 = .ok (.lconst 0, 1) := by decide +kernel
theorem d_Layout_add_39 : decode b_Layout_add 39 = .ok (.lastore, 1) := by decide +kernel
theorem d_Layout_add_40 : decode b_Layout_add 40 = .ok (.aload_n 0, 1) := by decide +kernel
theorem d_Layout_add_41 : decode b_Layout_add 41 = .ok (.dup, 1) := by decide +kernel
theorem d_Layout_add_42 : decode b_Layout_add 42 = .ok (.getfield 31, 3) := by decide +kernel
theorem d_Layout_add_45 : decode b_Layout_add 45 = .ok (.iconst 1, 1) := by decide +kernel
theorem d_Layout_add_46 : decode b_Layout_add 46 = .ok (.iadd, 1) := by decide +kernel
theorem d_Layout_add_47 : decode b_Layout_add 47 = .ok (.putfield 31, 3) := by decide +kernel
theorem d_Layout_add_50 : decode b_Layout_add 50 = .ok (.aload_n 0, 1) := by decide +kernel
theorem d_Layout_add_51 : decode b_Layout_add 51 = .ok (.getfield 31, 3) := by decide +kernel
theorem d_Layout_add_54 : decode b_Layout_add 54 = .ok (.iconst 1, 1) := by decide +kernel
theorem d_Layout_add_55 : decode b_Layout_add 55 = .ok (.isub, 1) := by decide +kernel
theorem d_Layout_add_56 : decode b_Layout_add 56 = .ok (.ireturn, 1) := by decide +kernel
theorem d_Layout_addByCorner_0 : decode b_Layout_addByCorner 0 = .ok (.aload_n 0, 1) := by decide +kernel
theorem d_Layout_addByCorner_1 : decode b_Layout_addByCorner 1 = .ok (.invokevirtual 43, 3) := by decide +kernel
theorem d_Layout_addByCorner_4 : decode b_Layout_addByCorner 4 = .ok (.ifCond .eq 7, 3) := by decide +kernel
theorem d_Layout_addByCorner_7 : decode b_Layout_addByCorner 7 = .ok (.iload_n 3, 1) := by decide +kernel
theorem d_Layout_addByCorner_8 : decode b_Layout_addByCorner 8 = .ok (.goto 4, 3) := by decide +kernel
theorem d_Layout_addByCorner_11 : decode b_Layout_addByCorner 11 = .ok (.iload_n 2, 1) := by decide +kernel
theorem d_Layout_addByCorner_12 : decode b_Layout_addByCorner 12 = .ok (.aload_n 0, 1) := by decide +kernel
theorem d_Layout_addByCorner_13 : decode b_Layout_addByCorner 13 = .ok (.iload_n 1, 1) := by decide +kernel
theorem d_Layout_addByCorner_14 : decode b_Layout_addByCorner 14 = .ok (.invokevirtual 47, 3) := by decide +kernel
theorem d_Layout_addByCorner_17 : decode b_Layout_addByCorner 17 = .ok (.isub, 1) := by decide +kernel
theorem d_Layout_addByCorner_18 : decode b_Layout_addByCorner 18 = .ok (.istore 4, 2) := by decide +kernel
theorem d_Layout_addByCorner_20 : decode b_Layout_addByCorner 20 = .ok (.aload_n 0, 1) := by decide +kernel
theorem d_Layout_addByCorner_21 : decode b_Layout_addByCorner 21 = .ok (.invokevirtual 43, 3) := by decide +kernel
theorem d_Layout_addByCorner_24 : decode b_Layout_addByCorner 24 = .ok (.ifCond .eq 7, 3) := by decide +kernel
theorem d_Layout_addByCorner_27 : decode b_Layout_addByCorner 27 = .ok (.iload_n 2, 1) := by decide +kernel
theorem d_Layout_addByCorner_28 : decode b_Layout_addByCorner 28 = .ok (.goto 4, 3) := by decide +kernel
theorem d_Layout_addByCorner_31 : decode b_Layout_addByCorner 31 = .ok (.iload_n 3, 1) := by decide +kernel
theorem d_Layout_addByCorner_32 : decode b_Layout_addByCorner 32 = .ok (.aload_n 0, 1) := by decide +kernel
theorem d_Layout_addByCorner_33 : decode b_Layout_addByCorner 33 = .ok (.iload_n 1, 1) := by decide +kernel
theorem d_Layout_addByCorner_34 : decode b_Layout_addByCorner 34 = .ok (.invokevirtual 51, 3) := by decide +kernel
theorem d_Layout_addByCorner_37 : decode b_Layout_addByCorner 37 = .ok (.isub, 1) := by decide +kernel
theorem d_Layout_addByCorner_38 : decode b_Layout_addByCorner 38 = .ok (.istore 5, 2) := by decide +kernel
theorem d_Layout_addByCorner_40 : decode b_Layout_addByCorner 40 = .ok (.aload_n 0, 1) := by decide +kernel
theorem d_Layout_addByCorner_41 : decode b_Layout_addByCorner 41 = .ok (.getfield 31, 3) := by decide +kernel
theorem d_Layout_addByCorner_44 : decode b_Layout_addByCorner 44 = .ok (.bipush 40, 2) := by decide +kernel
theorem d_Layout_addByCorner_46 : decode b_Layout_addByCorner 46 = .ok (.if_icmp .ge 19, 3) := by decide +kernel
theorem d_Layout_addByCorner_49 : decode b_Layout_addByCorner 49 = .ok (.iload 4, 2) := by decide +kernel
theorem d_Layout_addByCorner_51 : decode b_Layout_addByCorner 51 = .ok (.invokestatic 54, 3) := by decide +kernel
theorem d_Layout_addByCorner_54 : decode b_Layout_addByCorner 54 = .ok (.ifCond .eq 11, 3) := by decide +kernel
theorem d_Layout_addByCorner_57 : decode b_Layout_addByCorner 57 = .ok (.iload 5, 2) := by decide +kernel
theorem d_Layout_addByCorner_59 : decode b_Layout_addByCorner 59 = .ok (.invokestatic 54, 3) := by decide +kernel
theorem d_Layout_addByCorner_62 : decode b_Layout_addByCorner 62 = .ok (.ifCond .ne 5, 3) := by decide +kernel
theorem d_Layout_addByCorner_65 : decode b_Layout_addByCorner 65 = .ok (.iconst 0, 1) := by decide +kernel
theorem d_Layout_addByCorner_66 : decode b_Layout_addByCorner 66 = .ok (.ireturn, 1) := by decide +kernel
theorem d_Layout_addByCorner_67 : decode b_Layout_addByCorner 67 = .ok (.aload_n 0, 1) := by decide +kernel
theorem d_Layout_addByCorner_68 : decode b_Layout_addByCorner 68 = .ok (.iload_n 1, 1) := by decide +kernel
theorem d_Layout_addByCorner_69 : decode b_Layout_addByCorner 69 = .ok (.iload 4, 2) := by decide +kernel
theorem d_Layout_addByCorner_71 : decode b_Layout_addByCorner 71 = .ok (.iload 5, 2) := by decide +kernel
theorem d_Layout_addByCorner_73 : decode b_Layout_addByCorner 73 = .ok (.invokevirtual 58, 3) := by decide +kernel
theorem d_Layout_addByCorner_76 : decode b_Layout_addByCorner 76 = .ok (.pop, 1) := by decide +kernel
theorem d_Layout_addByCorner_77 : decode b_Layout_addByCorner 77 = .ok (.iconst 1, 1) := by decide +kernel
theorem d_Layout_addByCorner_78 : decode b_Layout_addByCorner 78 = .ok (.ireturn, 1) := by decide +kernel
theorem d_Layout_swapWithNext_0 : decode b_Layout_swapWithNext 0 = .ok (.aload_n 0, 1) := by decide +kernel
theorem d_Layout_swapWithNext_1 : decode b_Layout_swapWithNext 1 = .ok (.getfield 15, 3) := by decide +kernel
theorem d_Layout_swapWithNext_4 : decode b_Layout_swapWithNext 4 = .ok (.iload_n 1, 1) := by decide +kernel
theorem d_Layout_swapWithNext_5 : decode b_Layout_swapWithNext 5 = .ok (.iaload, 1) := by decide +kernel
theorem d_Layout_swapWithNext_6 : decode b_Layout_swapWithNext 6 = .ok (.istore_n 2, 1) := by decide +kernel
theorem d_Layout_swapWithNext_7 : decode b_Layout_swapWithNext 7 = .ok (.aload_n 0, 1) := by decide +kernel
theorem d_Layout_swapWithNext_8 : decode b_Layout_swapWithNext 8 = .ok (.getfield 18, 3) := by decide +kernel
theorem d_Layout_swapWithNext_11 : decode b_Layout_swapWithNext 11 = .ok (.iload_n 1, 1) := by decide +kernel
theorem d_Layout_swapWithNext_12 : decode b_Layout_swapWithNext 12 = .ok (.iaload, 1) := by decide +kernel
theorem d_Layout_swapWithNext_13 : decode b_Layout_swapWithNext 13 = .ok (.istore_n 3, 1) := by decide +kernel
theorem d_Layout_swapWithNext_14 : decode b_Layout_swapWithNext 14 = .ok (.aload_n 0, 1) := by decide +kernel
theorem d_Layout_swapWithNext_15 : decode b_Layout_swapWithNext 15 = .ok (.getfield 21, 3) := by decide +kernel
theorem d_Layout_swapWithNext_18 : decode b_Layout_swapWithNext 18 = .ok (.iload_n 1, 1) := by decide +kernel
theorem d_Layout_swapWithNext_19 : decode b_Layout_swapWithNext 19 = .ok (.iaload, 1) := by decide +kernel
theorem d_Layout_swapWithNext_20 : decode b_Layout_swapWithNext 20 = .ok (.istore 4, 2) := by decide +kernel
theorem d_Layout_swapWithNext_22 : decode b_Layout_swapWithNext 22 = .ok (.aload_n 0, 1) := by decide +kernel
theorem d_Layout_swapWithNext_23 : decode b_Layout_swapWithNext 23 = .ok (.getfield 24, 3) := by decide +kernel
theorem d_Layout_swapWithNext_26 : decode b_Layout_swapWithNext 26 = .ok (.iload_n 1, 1) := by decide +kernel
theorem d_Layout_swapWithNext_27 : decode b_Layout_swapWithNext 27 = .ok (.laload, 1) := by decide +kernel
theorem d_Layout_swapWithNext_28 : decode b_Layout_swapWithNext 28 = .ok (.lstore 5, 2) := by decide +kernel
theorem d_Layout_swapWithNext_30 : decode b_Layout_swapWithNext 30 = .ok (.aload_n 0, 1) := by decide +kernel
theorem d_Layout_swapWithNext_31 : decode b_Layout_swapWithNext 31 = .ok (.getfield 15, 3) := by decide +kernel
theorem d_Layout_swapWithNext_34 : decode b_Layout_swapWithNext 34 = .ok (.iload_n 1, 1) := by decide +kernel
theorem d_Layout_swapWithNext_35 : decode b_Layout_swapWithNext 35 = .ok (.aload_n 0, 1) := by decide +kernel
theorem d_Layout_swapWithNext_36 : decode b_Layout_swapWithNext 36 = .ok (.getfield 15, 3) := by decide +kernel
theorem d_Layout_swapWithNext_39 : decode b_Layout_swapWithNext 39 = .ok (.iload_n 1, 1) := by decide +kernel
theorem d_Layout_swapWithNext_40 : decode b_Layout_swapWithNext 40 = .ok (.iconst 1, 1) := by decide +kernel
theorem d_Layout_swapWithNext_41 : decode b_Layout_swapWithNext 41 = .ok (.iadd, 1) := by decide +kernel
theorem d_Layout_swapWithNext_42 : decode b_Layout_swapWithNext 42 = .ok (.iaload, 1) := by decide +kernel
theorem d_Layout_swapWithNext_43 : decode b_Layout_swapWithNext 43 = .ok (.iastore, 1) := by decide +kernel
theorem d_Layout_swapWithNext_44 : decode b_Layout_swapWithNext 44 = .ok (.aload_n 0, 1) := by decide +kernel
theorem d_Layout_swapWithNext_45 : decode b_Layout_swapWithNext 45 = .ok (.getfield 18, 3) := by decide +kernel
theorem d_Layout_swapWithNext_48 : decode b_Layout_swapWithNext 48 = .ok (.iload_n 1, 1) := by decide +kernel
theorem d_Layout_swapWithNext_49 : decode b_Layout_swapWithNext 49 = .ok (.aload_n 0, 1) := by decide +kernel
theorem d_Layout_swapWithNext_50 : decode b_Layout_swapWithNext 50 = .ok (.getfield 18, 3) := by decide +kernel
theorem d_Layout_swapWithNext_53 : decode b_Layout_swapWithNext 53 = .ok (.iload_n 1, 1) := by decide +kernel
theorem d_Layout_swapWithNext_54 : decode b_Layout_swapWithNext 54 = .ok (.iconst 1, 1) := by decide +kernel
theorem d_Layout_swapWithNext_55 : decode b_Layout_swapWithNext 55 = .ok (.iadd, 1) := by decide +kernel
theorem d_Layout_swapWithNext_56 : decode b_Layout_swapWithNext 56 = .ok (.iaload, 1) := by decide +kernel
theorem d_Layout_swapWithNext_57 : decode b_Layout_swapWithNext 57 = .ok (.iastore, 1) := by decide +kernel
theorem d_Layout_swapWithNext_58 : decode b_Layout_swapWithNext 58 = .ok (.aload_n 0, 1) := by decide +kernel
theorem d_Layout_swapWithNext_59 : decode b_Layout_swapWithNext 59 = .ok (.getfield 21, 3) := by decide +kernel
theorem d_Layout_swapWithNext_62 : decode b_Layout_swapWithNext 62 = .ok (.iload_n 1, 1) := by decide +kernel
theorem d_Layout_swapWithNext_63 : decode b_Layout_swapWithNext 63 = .ok (.aload_n 0, 1) := by decide +kernel
theorem d_Layout_swapWithNext_64 : decode b_Layout_swapWithNext 64 = .ok (.getfield 21, 3) := by decide +kernel
theorem d_Layout_swapWithNext_67 : decode b_Layout_swapWithNext 67 = .ok (.iload_n 1, 1) := by decide +kernel
theorem d_Layout_swapWithNext_68 : decode b_Layout_swapWithNext 68 = .ok (.iconst 1, 1) := by decide +kernel
theorem d_Layout_swapWithNext_69 : decode b_Layout_swapWithNext 69 = .ok (.iadd, 1) := by decide +kernel
theorem d_Layout_swapWithNext_70 : decode b_Layout_swapWithNext 70 = .ok (.iaload, 1) := by decide +kernel
theorem d_Layout_swapWithNext_71 : decode b_Layout_swapWithNext 71 = .ok (.iastore, 1) := by decide +kernel
theorem d_Layout_swapWithNext_72 : decode b_Layout_swapWithNext 72 = .ok (.aload_n 0, 1) := by decide +kernel
theorem d_Layout_swapWithNext_73 : decode b_Layout_swapWithNext 73 = .ok (.getfield 24, 3) := by decide +kernel
theorem d_Layout_swapWithNext_76 : decode b_Layout_swapWithNext 76 = .ok (.iload_n 1, 1) := by decide +kernel
theorem d_Layout_swapWithNext_77 : decode b_Layout_swapWithNext 77 = .ok (.aload_n 0, 1) := by decide +kernel
theorem d_Layout_swapWithNext_78 : decode b_Layout_swapWithNext 78 = .ok (.getfield 24, 3) := by decide +kernel
theorem d_Layout_swapWithNext_81 : decode b_Layout_swapWithNext 81 = .ok (.iload_n 1, 1) := by decide +kernel
theorem d_Layout_swapWithNext_82 : decode b_Layout_swapWithNext 82 = .ok (.iconst 1, 1) := by decide +kernel
theorem d_Layout_swapWithNext_83 : decode b_Layout_swapWithNext 83 = .ok (.iadd, 1) := by decide +kernel
theorem d_Layout_swapWithNext_84 : decode b_Layout_swapWithNext 84 = .ok (.laload, 1) := by decide +kernel
theorem d_Layout_swapWithNext_85 : decode b_Layout_swapWithNext 85 = .ok (.lastore, 1) := by decide +kernel
theorem d_Layout_swapWithNext_86 : decode b_Layout_swapWithNext 86 = .ok (.aload_n 0, 1) := by decide +kernel
theorem d_Layout_swapWithNext_87 : decode b_Layout_swapWithNext 87 = .ok (.getfield 15, 3) := by decide +kernel
theorem d_Layout_swapWithNext_90 : decode b_Layout_swapWithNext 90 = .ok (.iload_n 1, 1) := by decide +kernel
theorem d_Layout_swapWithNext_91 : decode b_Layout_swapWithNext 91 = .ok (.iconst 1, 1) := by decide +kernel
theorem d_Layout_swapWithNext_92 : decode b_Layout_swapWithNext 92 = .ok (.iadd, 1) := by decide +kernel
theorem d_Layout_swapWithNext_93 : decode b_Layout_swapWithNext 93 = .ok (.iload_n 2, 1) := by decide +kernel
theorem d_Layout_swapWithNext_94 : decode b_Layout_swapWithNext 94 = .ok (.iastore, 1) := by decide +kernel
theorem d_Layout_swapWithNext_95 : decode b_Layout_swapWithNext 95 = .ok (.aload_n 0, 1) := by decide +kernel
theorem d_Layout_swapWithNext_96 : decode b_Layout_swapWithNext 96 = .ok (.getfield 18, 3) := by decide +kernel
theorem d_Layout_swapWithNext_99 : decode b_Layout_swapWithNext 99 = .ok (.iload_n 1, 1) := by decide +kernel
theorem d_Layout_swapWithNext_100 : decode b_Layout_swapWithNext 100 = .ok (.iconst 1, 1) := by decide +kernel
theorem d_Layout_swapWithNext_101 : decode b_Layout_swapWithNext 101 = .ok (.iadd, 1) := by decide +kernel
theorem d_Layout_swapWithNext_102 : decode b_Layout_swapWithNext 102 = .ok (.iload_n 3, 1) := by decide +kernel
theorem d_Layout_swapWithNext_103 : decode b_Layout_swapWithNext 103 = .ok (.iastore, 1) := by decide +kernel
theorem d_Layout_swapWithNext_104 : decode b_Layout_swapWithNext 104 = .ok (.aload_n 0, 1) := by decide +kernel
theorem d_Layout_swapWithNext_105 : decode b_Layout_swapWithNext 105 = .ok (.getfield 21, 3) := by decide +kernel
theorem d_Layout_swapWithNext_108 : decode b_Layout_swapWithNext 108 = .ok (.iload_n 1, 1) := by decide +kernel
theorem d_Layout_swapWithNext_109 : decode b_Layout_swapWithNext 109 = .ok (.iconst 1, 1) := by decide +kernel
theorem d_Layout_swapWithNext_110 : decode b_Layout_swapWithNext 110 = .ok (.iadd, 1) := by decide +kernel
theorem d_Layout_swapWithNext_111 : decode b_Layout_swapWithNext 111 = .ok (.iload 4, 2) := by decide +kernel
theorem d_Layout_swapWithNext_113 : decode b_Layout_swapWithNext 113 = .ok (.iastore, 1) := by decide +kernel
theorem d_Layout_swapWithNext_114 : decode b_Layout_swapWithNext 114 = .ok (.aload_n 0, 1) := by decide +kernel
theorem d_Layout_swapWithNext_115 : decode b_Layout_swapWithNext 115 = .ok (.getfield 24, 3) := by decide +kernel
theorem d_Layout_swapWithNext_118 : decode b_Layout_swapWithNext 118 = .ok (.iload_n 1, 1) := by decide +kernel
theorem d_Layout_swapWithNext_119 : decode b_Layout_swapWithNext 119 = .ok (.iconst 1, 1) := by decide +kernel
theorem d_Layout_swapWithNext_120 : decode b_Layout_swapWithNext 120 = .ok (.iadd, 1) := by decide +kernel
theorem d_Layout_swapWithNext_121 : decode b_Layout_swapWithNext 121 = .ok (.lload 5, 2) := by decide +kernel
theorem d_Layout_swapWithNext_123 : decode b_Layout_swapWithNext 123 = .ok (.lastore, 1) := by decide +kernel
theorem d_Layout_swapWithNext_124 : decode b_Layout_swapWithNext 124 = .ok (.return_, 1) := by decide +kernel
theorem d_Layout_isTurned_0 : decode b_Layout_isTurned 0 = .ok (.aload_n 0, 1) := by decide +kernel
theorem d_Layout_isTurned_1 : decode b_Layout_isTurned 1 = .ok (.getfield 9, 3) := by decide +kernel
theorem d_Layout_isTurned_4 : decode b_Layout_isTurned 4 = .ok (.iconst 1, 1) := by decide +kernel
theorem d_Layout_isTurned_5 : decode b_Layout_isTurned 5 = .ok (.iaload, 1) := by decide +kernel
theorem d_Layout_isTurned_6 : decode b_Layout_isTurned 6 = .ok (.ifCond .eq 7, 3) := by decide +kernel
theorem d_Layout_isTurned_9 : decode b_Layout_isTurned 9 = .ok (.iconst 1, 1) := by decide +kernel
theorem d_Layout_isTurned_10 : decode b_Layout_isTurned 10 = .ok (.goto 4, 3) := by decide +kernel
theorem d_Layout_isTurned_13 : decode b_Layout_isTurned 13 = .ok (.iconst 0, 1) := by decide +kernel
theorem d_Layout_isTurned_14 : decode b_Layout_isTurned 14 = .ok (.ireturn, 1) := by decide +kernel
theorem d_Layout_cornerColumn_0 : decode b_Layout_cornerColumn 0 = .ok (.aload_n 0, 1) := by decide +kernel
theorem d_Layout_cornerColumn_1 : decode b_Layout_cornerColumn 1 = .ok (.getfield 9, 3) := by decide +kernel
theorem d_Layout_cornerColumn_4 : decode b_Layout_cornerColumn 4 = .ok (.iconst 0, 1) := by decide +kernel
theorem d_Layout_cornerColumn_5 : decode b_Layout_cornerColumn 5 = .ok (.iaload, 1) := by decide +kernel
theorem d_Layout_cornerColumn_6 : decode b_Layout_cornerColumn 6 = .ok (.iconst 2, 1) := by decide +kernel
theorem d_Layout_cornerColumn_7 : decode b_Layout_cornerColumn 7 = .ok (.if_icmp .lt 17, 3) := by decide +kernel
theorem d_Layout_cornerColumn_10 : decode b_Layout_cornerColumn 10 = .ok (.aload_n 0, 1) := by decide +kernel
theorem d_Layout_cornerColumn_11 : decode b_Layout_cornerColumn 11 = .ok (.getfield 35, 3) := by decide +kernel
theorem d_Layout_cornerColumn_14 : decode b_Layout_cornerColumn 14 = .ok (.getfield 62, 3) := by decide +kernel
theorem d_Layout_cornerColumn_17 : decode b_Layout_cornerColumn 17 = .ok (.iload_n 1, 1) := by decide +kernel
theorem d_Layout_cornerColumn_18 : decode b_Layout_cornerColumn 18 = .ok (.iaload, 1) := by decide +kernel
theorem d_Layout_cornerColumn_19 : decode b_Layout_cornerColumn 19 = .ok (.iconst 1, 1) := by decide +kernel
theorem d_Layout_cornerColumn_20 : decode b_Layout_cornerColumn 20 = .ok (.isub, 1) := by decide +kernel
theorem d_Layout_cornerColumn_21 : decode b_Layout_cornerColumn 21 = .ok (.goto 4, 3) := by decide +kernel
theorem d_Layout_cornerColumn_24 : decode b_Layout_cornerColumn 24 = .ok (.iconst 0, 1) := by decide +kernel
theorem d_Layout_cornerColumn_25 : decode b_Layout_cornerColumn 25 = .ok (.ireturn, 1) := by decide +kernel
theorem d_Layout_cornerRow_0 : decode b_Layout_cornerRow 0 = .ok (.aload_n 0, 1) := by decide +kernel
theorem d_Layout_cornerRow_1 : decode b_Layout_cornerRow 1 = .ok (.getfield 9, 3) := by decide +kernel
theorem d_Layout_cornerRow_4 : decode b_Layout_cornerRow 4 = .ok (.iconst 0, 1) := by decide +kernel
theorem d_Layout_cornerRow_5 : decode b_Layout_cornerRow 5 = .ok (.iaload, 1) := by decide +kernel
theorem d_Layout_cornerRow_6 : decode b_Layout_cornerRow 6 = .ok (.iconst 2, 1) := by decide +kernel
theorem d_Layout_cornerRow_7 : decode b_Layout_cornerRow 7 = .ok (.irem, 1) := by decide +kernel
theorem d_Layout_cornerRow_8 : decode b_Layout_cornerRow 8 = .ok (.iconst 1, 1) := by decide +kernel
theorem d_Layout_cornerRow_9 : decode b_Layout_cornerRow 9 = .ok (.if_icmp .ne 17, 3) := by decide +kernel
theorem d_Layout_cornerRow_12 : decode b_Layout_cornerRow 12 = .ok (.aload_n 0, 1) := by decide +kernel
theorem d_Layout_cornerRow_13 : decode b_Layout_cornerRow 13 = .ok (.getfield 35, 3) := by decide +kernel
theorem d_Layout_cornerRow_16 : decode b_Layout_cornerRow 16 = .ok (.getfield 67, 3) := by decide +kernel
theorem d_Layout_cornerRow_19 : decode b_Layout_cornerRow 19 = .ok (.iload_n 1, 1) := by decide +kernel
theorem d_Layout_cornerRow_20 : decode b_Layout_cornerRow 20 = .ok (.iaload, 1) := by decide +kernel
theorem d_Layout_cornerRow_21 : decode b_Layout_cornerRow 21 = .ok (.iconst 1, 1) := by decide +kernel
theorem d_Layout_cornerRow_22 : decode b_Layout_cornerRow 22 = .ok (.isub, 1) := by decide +kernel
theorem d_Layout_cornerRow_23 : decode b_Layout_cornerRow 23 = .ok (.goto 4, 3) := by decide +kernel
theorem d_Layout_cornerRow_26 : decode b_Layout_cornerRow 26 = .ok (.iconst 0, 1) := by decide +kernel
theorem d_Layout_cornerRow_27 : decode b_Layout_cornerRow 27 = .ok (.ireturn, 1) := by decide +kernel
theorem d_Layout_cornerS_0 : decode b_Layout_cornerS 0 = .ok (.aload_n 0, 1) := by decide +kernel
theorem d_Layout_cornerS_1 : decode b_Layout_cornerS 1 = .ok (.invokevirtual 43, 3) := by decide +kernel
theorem d_Layout_cornerS_4 : decode b_Layout_cornerS 4 = .ok (.ifCond .eq 23, 3) := by decide +kernel
theorem d_Layout_cornerS_7 : decode b_Layout_cornerS 7 = .ok (.aload_n 0, 1) := by decide +kernel
theorem d_Layout_cornerS_8 : decode b_Layout_cornerS 8 = .ok (.getfield 21, 3) := by decide +kernel
theorem d_Layout_cornerS_11 : decode b_Layout_cornerS 11 = .ok (.iload_n 1, 1) := by decide +kernel
theorem d_Layout_cornerS_12 : decode b_Layout_cornerS 12 = .ok (.iaload, 1) := by decide +kernel
theorem d_Layout_cornerS_13 : decode b_Layout_cornerS 13 = .ok (.aload_n 0, 1) := by decide +kernel
theorem d_Layout_cornerS_14 : decode b_Layout_cornerS 14 = .ok (.aload_n 0, 1) := by decide +kernel
theorem d_Layout_cornerS_15 : decode b_Layout_cornerS 15 = .ok (.getfield 15, 3) := by decide +kernel
theorem d_Layout_cornerS_18 : decode b_Layout_cornerS 18 = .ok (.iload_n 1, 1) := by decide +kernel
theorem d_Layout_cornerS_19 : decode b_Layout_cornerS 19 = .ok (.iaload, 1) := by decide +kernel
theorem d_Layout_cornerS_20 : decode b_Layout_cornerS 20 = .ok (.invokevirtual 51, 3) := by decide +kernel
theorem d_Layout_cornerS_23 : decode b_Layout_cornerS 23 = .ok (.iadd, 1) := by decide +kernel
theorem d_Layout_cornerS_24 : decode b_Layout_cornerS 24 = .ok (.goto 20, 3) := by decide +kernel
theorem d_Layout_cornerS_27 : decode b_Layout_cornerS 27 = .ok (.aload_n 0, 1) := by decide +kernel
theorem d_Layout_cornerS_28 : decode b_Layout_cornerS 28 = .ok (.getfield 18, 3) := by decide +kernel
theorem d_Layout_cornerS_31 : decode b_Layout_cornerS 31 = .ok (.iload_n 1, 1) := by decide +kernel
theorem d_Layout_cornerS_32 : decode b_Layout_cornerS 32 = .ok (.iaload, 1) := by decide +kernel
theorem d_Layout_cornerS_33 : decode b_Layout_cornerS 33 = .ok (.aload_n 0, 1) := by decide +kernel
theorem d_Layout_cornerS_34 : decode b_Layout_cornerS 34 = .ok (.aload_n 0, 1) := by decide +kernel
theorem d_Layout_cornerS_35 : decode b_Layout_cornerS 35 = .ok (.getfield 15, 3) := by decide +kernel
theorem d_Layout_cornerS_38 : decode b_Layout_cornerS 38 = .ok (.iload_n 1, 1) := by decide +kernel
theorem d_Layout_cornerS_39 : decode b_Layout_cornerS 39 = .ok (.iaload, 1) := by decide +kernel
theorem d_Layout_cornerS_40 : decode b_Layout_cornerS 40 = .ok (.invokevirtual 47, 3) := by decide +kernel
theorem d_Layout_cornerS_43 : decode b_Layout_cornerS 43 = .ok (.iadd, 1) := by decide +kernel
theorem d_Layout_cornerS_44 : decode b_Layout_cornerS 44 = .ok (.ireturn, 1) := by decide +kernel
theorem d_Layout_cornerT_0 : decode b_Layout_cornerT 0 = .ok (.aload_n 0, 1) := by decide +kernel
theorem d_Layout_cornerT_1 : decode b_Layout_cornerT 1 = .ok (.invokevirtual 43, 3) := by decide +kernel
theorem d_Layout_cornerT_4 : decode b_Layout_cornerT 4 = .ok (.ifCond .eq 23, 3) := by decide +kernel
theorem d_Layout_cornerT_7 : decode b_Layout_cornerT 7 = .ok (.aload_n 0, 1) := by decide +kernel
theorem d_Layout_cornerT_8 : decode b_Layout_cornerT 8 = .ok (.getfield 18, 3) := by decide +kernel
theorem d_Layout_cornerT_11 : decode b_Layout_cornerT 11 = .ok (.iload_n 1, 1) := by decide +kernel
theorem d_Layout_cornerT_12 : decode b_Layout_cornerT 12 = .ok (.iaload, 1) := by decide +kernel
theorem d_Layout_cornerT_13 : decode b_Layout_cornerT 13 = .ok (.aload_n 0, 1) := by decide +kernel
theorem d_Layout_cornerT_14 : decode b_Layout_cornerT 14 = .ok (.aload_n 0, 1) := by decide +kernel
theorem d_Layout_cornerT_15 : decode b_Layout_cornerT 15 = .ok (.getfield 15, 3) := by decide +kernel
theorem d_Layout_cornerT_18 : decode b_Layout_cornerT 18 = .ok (.iload_n 1, 1) := by decide +kernel
theorem d_Layout_cornerT_19 : decode b_Layout_cornerT 19 = .ok (.iaload, 1) := by decide +kernel
theorem d_Layout_cornerT_20 : decode b_Layout_cornerT 20 = .ok (.invokevirtual 47, 3) := by decide +kernel
theorem d_Layout_cornerT_23 : decode b_Layout_cornerT 23 = .ok (.iadd, 1) := by decide +kernel
theorem d_Layout_cornerT_24 : decode b_Layout_cornerT 24 = .ok (.goto 20, 3) := by decide +kernel
theorem d_Layout_cornerT_27 : decode b_Layout_cornerT 27 = .ok (.aload_n 0, 1) := by decide +kernel
theorem d_Layout_cornerT_28 : decode b_Layout_cornerT 28 = .ok (.getfield 21, 3) := by decide +kernel
theorem d_Layout_cornerT_31 : decode b_Layout_cornerT 31 = .ok (.iload_n 1, 1) := by decide +kernel
theorem d_Layout_cornerT_32 : decode b_Layout_cornerT 32 = .ok (.iaload, 1) := by decide +kernel
theorem d_Layout_cornerT_33 : decode b_Layout_cornerT 33 = .ok (.aload_n 0, 1) := by decide +kernel
theorem d_Layout_cornerT_34 : decode b_Layout_cornerT 34 = .ok (.aload_n 0, 1) := by decide +kernel
theorem d_Layout_cornerT_35 : decode b_Layout_cornerT 35 = .ok (.getfield 15, 3) := by decide +kernel
theorem d_Layout_cornerT_38 : decode b_Layout_cornerT 38 = .ok (.iload_n 1, 1) := by decide +kernel
theorem d_Layout_cornerT_39 : decode b_Layout_cornerT 39 = .ok (.iaload, 1) := by decide +kernel
theorem d_Layout_cornerT_40 : decode b_Layout_cornerT 40 = .ok (.invokevirtual 51, 3) := by decide +kernel
theorem d_Layout_cornerT_43 : decode b_Layout_cornerT 43 = .ok (.iadd, 1) := by decide +kernel
theorem d_Layout_cornerT_44 : decode b_Layout_cornerT 44 = .ok (.ireturn, 1) := by decide +kernel
theorem d_Layout_strip_0 : decode b_Layout_strip 0 = .ok (.aload_n 0, 1) := by decide +kernel
theorem d_Layout_strip_1 : decode b_Layout_strip 1 = .ok (.iload_n 1, 1) := by decide +kernel
theorem d_Layout_strip_2 : decode b_Layout_strip 2 = .ok (.invokevirtual 70, 3) := by decide +kernel
theorem d_Layout_strip_5 : decode b_Layout_strip 5 = .ok (.aload_n 0, 1) := by decide +kernel
theorem d_Layout_strip_6 : decode b_Layout_strip 6 = .ok (.getfield 9, 3) := by decide +kernel
theorem d_Layout_strip_9 : decode b_Layout_strip 9 = .ok (.iconst 2, 1) := by decide +kernel
theorem d_Layout_strip_10 : decode b_Layout_strip 10 = .ok (.iaload, 1) := by decide +kernel
theorem d_Layout_strip_11 : decode b_Layout_strip 11 = .ok (.ishr, 1) := by decide +kernel
theorem d_Layout_strip_12 : decode b_Layout_strip 12 = .ok (.ireturn, 1) := by decide +kernel
theorem d_Layout_nextS_0 : decode b_Layout_nextS 0 = .ok (.aload_n 0, 1) := by decide +kernel
theorem d_Layout_nextS_1 : decode b_Layout_nextS 1 = .ok (.getfield 15, 3) := by decide +kernel
theorem d_Layout_nextS_4 : decode b_Layout_nextS 4 = .ok (.iload_n 1, 1) := by decide +kernel
theorem d_Layout_nextS_5 : decode b_Layout_nextS 5 = .ok (.iaload, 1) := by decide +kernel
theorem d_Layout_nextS_6 : decode b_Layout_nextS 6 = .ok (.istore_n 2, 1) := by decide +kernel
theorem d_Layout_nextS_7 : decode b_Layout_nextS 7 = .ok (.aload_n 0, 1) := by decide +kernel
theorem d_Layout_nextS_8 : decode b_Layout_nextS 8 = .ok (.iload_n 1, 1) := by decide +kernel
theorem d_Layout_nextS_9 : decode b_Layout_nextS 9 = .ok (.invokevirtual 73, 3) := by decide +kernel
theorem d_Layout_nextS_12 : decode b_Layout_nextS 12 = .ok (.aload_n 0, 1) := by decide +kernel
theorem d_Layout_nextS_13 : decode b_Layout_nextS 13 = .ok (.invokevirtual 43, 3) := by decide +kernel
theorem d_Layout_nextS_16 : decode b_Layout_nextS 16 = .ok (.ifCond .eq 15, 3) := by decide +kernel
theorem d_Layout_nextS_19 : decode b_Layout_nextS 19 = .ok (.aload_n 0, 1) := by decide +kernel
theorem d_Layout_nextS_20 : decode b_Layout_nextS 20 = .ok (.getfield 35, 3) := by decide +kernel
theorem d_Layout_nextS_23 : decode b_Layout_nextS 23 = .ok (.getfield 67, 3) := by decide +kernel
theorem d_Layout_nextS_26 : decode b_Layout_nextS 26 = .ok (.iload_n 2, 1) := by decide +kernel
theorem d_Layout_nextS_27 : decode b_Layout_nextS 27 = .ok (.iaload, 1) := by decide +kernel
theorem d_Layout_nextS_28 : decode b_Layout_nextS 28 = .ok (.goto 12, 3) := by decide +kernel
theorem d_Layout_nextS_31 : decode b_Layout_nextS 31 = .ok (.aload_n 0, 1) := by decide +kernel
theorem d_Layout_nextS_32 : decode b_Layout_nextS 32 = .ok (.getfield 35, 3) := by decide +kernel
theorem d_Layout_nextS_35 : decode b_Layout_nextS 35 = .ok (.getfield 62, 3) := by decide +kernel
theorem d_Layout_nextS_38 : decode b_Layout_nextS 38 = .ok (.iload_n 2, 1) := by decide +kernel
theorem d_Layout_nextS_39 : decode b_Layout_nextS 39 = .ok (.iaload, 1) := by decide +kernel
theorem d_Layout_nextS_40 : decode b_Layout_nextS 40 = .ok (.iadd, 1) := by decide +kernel
theorem d_Layout_nextS_41 : decode b_Layout_nextS 41 = .ok (.ireturn, 1) := by decide +kernel
theorem d_Layout_arrange_0 : decode b_Layout_arrange 0 = .ok (.iconst 0, 1) := by decide +kernel
theorem d_Layout_arrange_1 : decode b_Layout_arrange 1 = .ok (.istore_n 1, 1) := by decide +kernel
theorem d_Layout_arrange_2 : decode b_Layout_arrange 2 = .ok (.iload_n 1, 1) := by decide +kernel
theorem d_Layout_arrange_3 : decode b_Layout_arrange 3 = .ok (.aload_n 0, 1) := by decide +kernel
theorem d_Layout_arrange_4 : decode b_Layout_arrange 4 = .ok (.getfield 31, 3) := by decide +kernel
theorem d_Layout_arrange_7 : decode b_Layout_arrange 7 = .ok (.if_icmp .ge 64, 3) := by decide +kernel
theorem d_Layout_arrange_10 : decode b_Layout_arrange 10 = .ok (.aload_n 0, 1) := by decide +kernel
theorem d_Layout_arrange_11 : decode b_Layout_arrange 11 = .ok (.iload_n 1, 1) := by decide +kernel
theorem d_Layout_arrange_12 : decode b_Layout_arrange 12 = .ok (.invokevirtual 76, 3) := by decide +kernel
theorem d_Layout_arrange_15 : decode b_Layout_arrange 15 = .ok (.istore_n 2, 1) := by decide +kernel
theorem d_Layout_arrange_16 : decode b_Layout_arrange 16 = .ok (.iload_n 1, 1) := by decide +kernel
theorem d_Layout_arrange_17 : decode b_Layout_arrange 17 = .ok (.istore_n 3, 1) := by decide +kernel
theorem d_Layout_arrange_18 : decode b_Layout_arrange 18 = .ok (.iload_n 3, 1) := by decide +kernel
theorem d_Layout_arrange_19 : decode b_Layout_arrange 19 = .ok (.ifCond .le 39, 3) := by decide +kernel
theorem d_Layout_arrange_22 : decode b_Layout_arrange 22 = .ok (.aload_n 0, 1) := by decide +kernel
theorem d_Layout_arrange_23 : decode b_Layout_arrange 23 = .ok (.aload_n 0, 1) := by decide +kernel
theorem d_Layout_arrange_24 : decode b_Layout_arrange 24 = .ok (.getfield 28, 3) := by decide +kernel
theorem d_Layout_arrange_27 : decode b_Layout_arrange 27 = .ok (.iload_n 3, 1) := by decide +kernel
theorem d_Layout_arrange_28 : decode b_Layout_arrange 28 = .ok (.iconst 1, 1) := by decide +kernel
theorem d_Layout_arrange_29 : decode b_Layout_arrange 29 = .ok (.isub, 1) := by decide +kernel
theorem d_Layout_arrange_30 : decode b_Layout_arrange 30 = .ok (.iaload, 1) := by decide +kernel
theorem d_Layout_arrange_31 : decode b_Layout_arrange 31 = .ok (.invokevirtual 76, 3) := by decide +kernel
theorem d_Layout_arrange_34 : decode b_Layout_arrange 34 = .ok (.iload_n 2, 1) := by decide +kernel
theorem d_Layout_arrange_35 : decode b_Layout_arrange 35 = .ok (.if_icmp .le 23, 3) := by decide +kernel
theorem d_Layout_arrange_38 : decode b_Layout_arrange 38 = .ok (.aload_n 0, 1) := by decide +kernel
theorem d_Layout_arrange_39 : decode b_Layout_arrange 39 = .ok (.getfield 28, 3) := by decide +kernel
theorem d_Layout_arrange_42 : decode b_Layout_arrange 42 = .ok (.iload_n 3, 1) := by decide +kernel
theorem d_Layout_arrange_43 : decode b_Layout_arrange 43 = .ok (.aload_n 0, 1) := by decide +kernel
theorem d_Layout_arrange_44 : decode b_Layout_arrange 44 = .ok (.getfield 28, 3) := by decide +kernel
theorem d_Layout_arrange_47 : decode b_Layout_arrange 47 = .ok (.iload_n 3, 1) := by decide +kernel
theorem d_Layout_arrange_48 : decode b_Layout_arrange 48 = .ok (.iconst 1, 1) := by decide +kernel
theorem d_Layout_arrange_49 : decode b_Layout_arrange 49 = .ok (.isub, 1) := by decide +kernel
theorem d_Layout_arrange_50 : decode b_Layout_arrange 50 = .ok (.iaload, 1) := by decide +kernel
theorem d_Layout_arrange_51 : decode b_Layout_arrange 51 = .ok (.iastore, 1) := by decide +kernel
theorem d_Layout_arrange_52 : decode b_Layout_arrange 52 = .ok (.iinc 3 (-1), 3) := by decide +kernel
theorem d_Layout_arrange_55 : decode b_Layout_arrange 55 = .ok (.goto (-37), 3) := by decide +kernel
theorem d_Layout_arrange_58 : decode b_Layout_arrange 58 = .ok (.aload_n 0, 1) := by decide +kernel
theorem d_Layout_arrange_59 : decode b_Layout_arrange 59 = .ok (.getfield 28, 3) := by decide +kernel
theorem d_Layout_arrange_62 : decode b_Layout_arrange 62 = .ok (.iload_n 3, 1) := by decide +kernel
theorem d_Layout_arrange_63 : decode b_Layout_arrange 63 = .ok (.iload_n 1, 1) := by decide +kernel
theorem d_Layout_arrange_64 : decode b_Layout_arrange 64 = .ok (.iastore, 1) := by decide +kernel
theorem d_Layout_arrange_65 : decode b_Layout_arrange 65 = .ok (.iinc 1 1, 3) := by decide +kernel
theorem d_Layout_arrange_68 : decode b_Layout_arrange 68 = .ok (.goto (-66), 3) := by decide +kernel
theorem d_Layout_arrange_71 : decode b_Layout_arrange 71 = .ok (.return_, 1) := by decide +kernel
theorem d_Page_init_0 : decode b_Page_init 0 = .ok (.aload_n 0, 1) := by decide +kernel
theorem d_Page_init_1 : decode b_Page_init 1 = .ok (.invokespecial 3, 3) := by decide +kernel
theorem d_Page_init_4 : decode b_Page_init 4 = .ok (.aload_n 0, 1) := by decide +kernel
theorem d_Page_init_5 : decode b_Page_init 5 = .ok (.iload_n 1, 1) := by decide +kernel
theorem d_Page_init_6 : decode b_Page_init 6 = .ok (.putfield 9, 3) := by decide +kernel
theorem d_Page_init_9 : decode b_Page_init 9 = .ok (.aload_n 0, 1) := by decide +kernel
theorem d_Page_init_10 : decode b_Page_init 10 = .ok (.iload_n 2, 1) := by decide +kernel
theorem d_Page_init_11 : decode b_Page_init 11 = .ok (.putfield 15, 3) := by decide +kernel
theorem d_Page_init_14 : decode b_Page_init 14 = .ok (.aload_n 0, 1) := by decide +kernel
theorem d_Page_init_15 : decode b_Page_init 15 = .ok (.iload_n 1, 1) := by decide +kernel
theorem d_Page_init_16 : decode b_Page_init 16 = .ok (.iload_n 2, 1) := by decide +kernel
theorem d_Page_init_17 : decode b_Page_init 17 = .ok (.imul, 1) := by decide +kernel
theorem d_Page_init_18 : decode b_Page_init 18 = .ok (.newarray .boolean, 2) := by decide +kernel
theorem d_Page_init_20 : decode b_Page_init 20 = .ok (.putfield 18, 3) := by decide +kernel
theorem d_Page_init_23 : decode b_Page_init 23 = .ok (.return_, 1) := by decide +kernel
theorem d_Page_has_0 : decode b_Page_has 0 = .ok (.iload_n 1, 1) := by decide +kernel
theorem d_Page_has_1 : decode b_Page_has 1 = .ok (.iconst 0, 1) := by decide +kernel
theorem d_Page_has_2 : decode b_Page_has 2 = .ok (.aload_n 0, 1) := by decide +kernel
theorem d_Page_has_3 : decode b_Page_has 3 = .ok (.getfield 9, 3) := by decide +kernel
theorem d_Page_has_6 : decode b_Page_has 6 = .ok (.iconst 1, 1) := by decide +kernel
theorem d_Page_has_7 : decode b_Page_has 7 = .ok (.isub, 1) := by decide +kernel
theorem d_Page_has_8 : decode b_Page_has 8 = .ok (.invokestatic 22, 3) := by decide +kernel
theorem d_Page_has_11 : decode b_Page_has 11 = .ok (.ifCond .eq 21, 3) := by decide +kernel
theorem d_Page_has_14 : decode b_Page_has 14 = .ok (.iload_n 2, 1) := by decide +kernel
theorem d_Page_has_15 : decode b_Page_has 15 = .ok (.iconst 0, 1) := by decide +kernel
theorem d_Page_has_16 : decode b_Page_has 16 = .ok (.aload_n 0, 1) := by decide +kernel
theorem d_Page_has_17 : decode b_Page_has 17 = .ok (.getfield 15, 3) := by decide +kernel
theorem d_Page_has_20 : decode b_Page_has 20 = .ok (.iconst 1, 1) := by decide +kernel
theorem d_Page_has_21 : decode b_Page_has 21 = .ok (.isub, 1) := by decide +kernel
theorem d_Page_has_22 : decode b_Page_has 22 = .ok (.invokestatic 22, 3) := by decide +kernel
theorem d_Page_has_25 : decode b_Page_has 25 = .ok (.ifCond .eq 7, 3) := by decide +kernel
theorem d_Page_has_28 : decode b_Page_has 28 = .ok (.iconst 1, 1) := by decide +kernel
theorem d_Page_has_29 : decode b_Page_has 29 = .ok (.goto 4, 3) := by decide +kernel
theorem d_Page_has_32 : decode b_Page_has 32 = .ok (.iconst 0, 1) := by decide +kernel
theorem d_Page_has_33 : decode b_Page_has 33 = .ok (.ireturn, 1) := by decide +kernel
theorem d_Page_lighten_0 : decode b_Page_lighten 0 = .ok (.iconst 0, 1) := by decide +kernel
theorem d_Page_lighten_1 : decode b_Page_lighten 1 = .ok (.istore_n 1, 1) := by decide +kernel
theorem d_Page_lighten_2 : decode b_Page_lighten 2 = .ok (.iload_n 1, 1) := by decide +kernel
theorem d_Page_lighten_3 : decode b_Page_lighten 3 = .ok (.aload_n 0, 1) := by decide +kernel
theorem d_Page_lighten_4 : decode b_Page_lighten 4 = .ok (.getfield 18, 3) := by decide +kernel
theorem d_Page_lighten_7 : decode b_Page_lighten 7 = .ok (.arraylength, 1) := by decide +kernel
theorem d_Page_lighten_8 : decode b_Page_lighten 8 = .ok (.if_icmp .ge 16, 3) := by decide +kernel
theorem d_Page_lighten_11 : decode b_Page_lighten 11 = .ok (.aload_n 0, 1) := by decide +kernel
theorem d_Page_lighten_12 : decode b_Page_lighten 12 = .ok (.getfield 18, 3) := by decide +kernel
theorem d_Page_lighten_15 : decode b_Page_lighten 15 = .ok (.iload_n 1, 1) := by decide +kernel
theorem d_Page_lighten_16 : decode b_Page_lighten 16 = .ok (.iconst 0, 1) := by decide +kernel
theorem d_Page_lighten_17 : decode b_Page_lighten 17 = .ok (.bastore, 1) := by decide +kernel
theorem d_Page_lighten_18 : decode b_Page_lighten 18 = .ok (.iinc 1 1, 3) := by decide +kernel
theorem d_Page_lighten_21 : decode b_Page_lighten 21 = .ok (.goto (-19), 3) := by decide +kernel
theorem d_Page_lighten_24 : decode b_Page_lighten 24 = .ok (.return_, 1) := by decide +kernel
theorem d_Page_countDark_0 : decode b_Page_countDark 0 = .ok (.iconst 0, 1) := by decide +kernel
theorem d_Page_countDark_1 : decode b_Page_countDark 1 = .ok (.istore_n 1, 1) := by decide +kernel
theorem d_Page_countDark_2 : decode b_Page_countDark 2 = .ok (.iconst 0, 1) := by decide +kernel
theorem d_Page_countDark_3 : decode b_Page_countDark 3 = .ok (.istore_n 2, 1) := by decide +kernel
theorem d_Page_countDark_4 : decode b_Page_countDark 4 = .ok (.iload_n 2, 1) := by decide +kernel
theorem d_Page_countDark_5 : decode b_Page_countDark 5 = .ok (.aload_n 0, 1) := by decide +kernel
theorem d_Page_countDark_6 : decode b_Page_countDark 6 = .ok (.getfield 18, 3) := by decide +kernel
theorem d_Page_countDark_9 : decode b_Page_countDark 9 = .ok (.arraylength, 1) := by decide +kernel
theorem d_Page_countDark_10 : decode b_Page_countDark 10 = .ok (.if_icmp .ge 26, 3) := by decide +kernel
theorem d_Page_countDark_13 : decode b_Page_countDark 13 = .ok (.iload_n 1, 1) := by decide +kernel
theorem d_Page_countDark_14 : decode b_Page_countDark 14 = .ok (.aload_n 0, 1) := by decide +kernel
theorem d_Page_countDark_15 : decode b_Page_countDark 15 = .ok (.getfield 18, 3) := by decide +kernel
theorem d_Page_countDark_18 : decode b_Page_countDark 18 = .ok (.iload_n 2, 1) := by decide +kernel
theorem d_Page_countDark_19 : decode b_Page_countDark 19 = .ok (.baload, 1) := by decide +kernel
theorem d_Page_countDark_20 : decode b_Page_countDark 20 = .ok (.ifCond .eq 7, 3) := by decide +kernel
theorem d_Page_countDark_23 : decode b_Page_countDark 23 = .ok (.iconst 1, 1) := by decide +kernel
theorem d_Page_countDark_24 : decode b_Page_countDark 24 = .ok (.goto 4, 3) := by decide +kernel
theorem d_Page_countDark_27 : decode b_Page_countDark 27 = .ok (.iconst 0, 1) := by decide +kernel
theorem d_Page_countDark_28 : decode b_Page_countDark 28 = .ok (.iadd, 1) := by decide +kernel
theorem d_Page_countDark_29 : decode b_Page_countDark 29 = .ok (.istore_n 1, 1) := by decide +kernel
theorem d_Page_countDark_30 : decode b_Page_countDark 30 = .ok (.iinc 2 1, 3) := by decide +kernel
theorem d_Page_countDark_33 : decode b_Page_countDark 33 = .ok (.goto (-29), 3) := by decide +kernel
theorem d_Page_countDark_36 : decode b_Page_countDark 36 = .ok (.iload_n 1, 1) := by decide +kernel
theorem d_Page_countDark_37 : decode b_Page_countDark 37 = .ok (.ireturn, 1) := by decide +kernel
theorem d_Page_lay_0 : decode b_Page_lay 0 = .ok (.aload_n 1, 1) := by decide +kernel
theorem d_Page_lay_1 : decode b_Page_lay 1 = .ok (.getfield 26, 3) := by decide +kernel
theorem d_Page_lay_4 : decode b_Page_lay 4 = .ok (.astore_n 3, 1) := by decide +kernel
theorem d_Page_lay_5 : decode b_Page_lay 5 = .ok (.aload_n 1, 1) := by decide +kernel
theorem d_Page_lay_6 : decode b_Page_lay 6 = .ok (.getfield 32, 3) := by decide +kernel
theorem d_Page_lay_9 : decode b_Page_lay 9 = .ok (.iload_n 2, 1) := by decide +kernel
theorem d_Page_lay_10 : decode b_Page_lay 10 = .ok (.iaload, 1) := by decide +kernel
theorem d_Page_lay_11 : decode b_Page_lay 11 = .ok (.istore 4, 2) := by decide +kernel
theorem d_Page_lay_13 : decode b_Page_lay 13 = .ok (.aload_n 3, 1) := by decide +kernel
theorem d_Page_lay_14 : decode b_Page_lay 14 = .ok (.getfield 36, 3) := by decide +kernel
theorem d_Page_lay_17 : decode b_Page_lay 17 = .ok (.iload 4, 2) := by decide +kernel
theorem d_Page_lay_19 : decode b_Page_lay 19 = .ok (.laload, 1) := by decide +kernel
theorem d_Page_lay_20 : decode b_Page_lay 20 = .ok (.aload_n 1, 1) := by decide +kernel
theorem d_Page_lay_21 : decode b_Page_lay 21 = .ok (.getfield 42, 3) := by decide +kernel
theorem d_Page_lay_24 : decode b_Page_lay 24 = .ok (.iload_n 2, 1) := by decide +kernel
theorem d_Page_lay_25 : decode b_Page_lay 25 = .ok (.laload, 1) := by decide +kernel
theorem d_Page_lay_26 : decode b_Page_lay 26 = .ok (.lxor, 1) := by decide +kernel
theorem d_Page_lay_27 : decode b_Page_lay 27 = .ok (.lstore 5, 2) := by decide +kernel
theorem d_Page_lay_29 : decode b_Page_lay 29 = .ok (.iconst 0, 1) := by decide +kernel
theorem d_Page_lay_30 : decode b_Page_lay 30 = .ok (.istore 7, 2) := by decide +kernel
theorem d_Page_lay_32 : decode b_Page_lay 32 = .ok (.iload 7, 2) := by decide +kernel
theorem d_Page_lay_34 : decode b_Page_lay 34 = .ok (.aload_n 3, 1) := by decide +kernel
theorem d_Page_lay_35 : decode b_Page_lay 35 = .ok (.getfield 45, 3) := by decide +kernel
theorem d_Page_lay_38 : decode b_Page_lay 38 = .ok (.iload 4, 2) := by decide +kernel
theorem d_Page_lay_40 : decode b_Page_lay 40 = .ok (.iaload, 1) := by decide +kernel
theorem d_Page_lay_41 : decode b_Page_lay 41 = .ok (.if_icmp .ge 77, 3) := by decide +kernel
theorem d_Page_lay_44 : decode b_Page_lay 44 = .ok (.iconst 0, 1) := by decide +kernel
theorem d_Page_lay_45 : decode b_Page_lay 45 = .ok (.istore 8, 2) := by decide +kernel
theorem d_Page_lay_47 : decode b_Page_lay 47 = .ok (.iload 8, 2) := by decide +kernel
theorem d_Page_lay_49 : decode b_Page_lay 49 = .ok (.aload_n 3, 1) := by decide +kernel
theorem d_Page_lay_50 : decode b_Page_lay 50 = .ok (.getfield 48, 3) := by decide +kernel
theorem d_Page_lay_53 : decode b_Page_lay 53 = .ok (.iload 4, 2) := by decide +kernel
theorem d_Page_lay_55 : decode b_Page_lay 55 = .ok (.iaload, 1) := by decide +kernel
theorem d_Page_lay_56 : decode b_Page_lay 56 = .ok (.if_icmp .ge 56, 3) := by decide +kernel
theorem d_Page_lay_59 : decode b_Page_lay 59 = .ok (.lload 5, 2) := by decide +kernel
theorem d_Page_lay_61 : decode b_Page_lay 61 = .ok (.aload_n 3, 1) := by decide +kernel
theorem d_Page_lay_62 : decode b_Page_lay 62 = .ok (.iload 4, 2) := by decide +kernel
theorem d_Page_lay_64 : decode b_Page_lay 64 = .ok (.iload 8, 2) := by decide +kernel
theorem d_Page_lay_66 : decode b_Page_lay 66 = .ok (.iload 7, 2) := by decide +kernel
theorem d_Page_lay_68 : decode b_Page_lay 68 = .ok (.invokevirtual 51, 3) := by decide +kernel
theorem d_Page_lay_71 : decode b_Page_lay 71 = .ok (.invokestatic 55, 3) := by decide +kernel
theorem d_Page_lay_74 : decode b_Page_lay 74 = .ok (.istore 9, 2) := by decide +kernel
theorem d_Page_lay_76 : decode b_Page_lay 76 = .ok (.aload_n 0, 1) := by decide +kernel
theorem d_Page_lay_77 : decode b_Page_lay 77 = .ok (.aload_n 1, 1) := by decide +kernel
theorem d_Page_lay_78 : decode b_Page_lay 78 = .ok (.getfield 59, 3) := by decide +kernel
theorem d_Page_lay_81 : decode b_Page_lay 81 = .ok (.iload_n 2, 1) := by decide +kernel
theorem d_Page_lay_82 : decode b_Page_lay 82 = .ok (.iaload, 1) := by decide +kernel
theorem d_Page_lay_83 : decode b_Page_lay 83 = .ok (.iload 8, 2) := by decide +kernel
theorem d_Page_lay_85 : decode b_Page_lay 85 = .ok (.iadd, 1) := by decide +kernel
theorem d_Page_lay_86 : decode b_Page_lay 86 = .ok (.aload_n 1, 1) := by decide +kernel
theorem d_Page_lay_87 : decode b_Page_lay 87 = .ok (.getfield 62, 3) := by decide +kernel
theorem d_Page_lay_90 : decode b_Page_lay 90 = .ok (.iload_n 2, 1) := by decide +kernel
theorem d_Page_lay_91 : decode b_Page_lay 91 = .ok (.iaload, 1) := by decide +kernel
theorem d_Page_lay_92 : decode b_Page_lay 92 = .ok (.iload 7, 2) := by decide +kernel
theorem d_Page_lay_94 : decode b_Page_lay 94 = .ok (.iadd, 1) := by decide +kernel
theorem d_Page_lay_95 : decode b_Page_lay 95 = .ok (.iload 9, 2) := by decide +kernel
theorem d_Page_lay_97 : decode b_Page_lay 97 = .ok (.aload_n 1, 1) := by decide +kernel
theorem d_Page_lay_98 : decode b_Page_lay 98 = .ok (.getfield 65, 3) := by decide +kernel
theorem d_Page_lay_101 : decode b_Page_lay 101 = .ok (.iconst 3, 1) := by decide +kernel
theorem d_Page_lay_102 : decode b_Page_lay 102 = .ok (.iaload, 1) := by decide +kernel
theorem d_Page_lay_103 : decode b_Page_lay 103 = .ok (.invokevirtual 68, 3) := by decide +kernel
theorem d_Page_lay_106 : decode b_Page_lay 106 = .ok (.iinc 8 1, 3) := by decide +kernel
theorem d_Page_lay_109 : decode b_Page_lay 109 = .ok (.goto (-62), 3) := by decide +kernel
theorem d_Page_lay_112 : decode b_Page_lay 112 = .ok (.iinc 7 1, 3) := by decide +kernel
theorem d_Page_lay_115 : decode b_Page_lay 115 = .ok (.goto (-83), 3) := by decide +kernel
theorem d_Page_lay_118 : decode b_Page_lay 118 = .ok (.return_, 1) := by decide +kernel
theorem d_Page_laySample_0 : decode b_Page_laySample 0 = .ok (.aload_n 0, 1) := by decide +kernel
theorem d_Page_laySample_1 : decode b_Page_laySample 1 = .ok (.iload_n 1, 1) := by decide +kernel
theorem d_Page_laySample_2 : decode b_Page_laySample 2 = .ok (.iload_n 2, 1) := by decide +kernel
theorem d_Page_laySample_3 : decode b_Page_laySample 3 = .ok (.invokevirtual 72, 3) := by decide +kernel
theorem d_Page_laySample_6 : decode b_Page_laySample 6 = .ok (.ifCond .eq 35, 3) := by decide +kernel
theorem d_Page_laySample_9 : decode b_Page_laySample 9 = .ok (.aload_n 0, 1) := by decide +kernel
theorem d_Page_laySample_10 : decode b_Page_laySample 10 = .ok (.getfield 18, 3) := by decide +kernel
theorem d_Page_laySample_13 : decode b_Page_laySample 13 = .ok (.iload_n 2, 1) := by decide +kernel
theorem d_Page_laySample_14 : decode b_Page_laySample 14 = .ok (.aload_n 0, 1) := by decide +kernel
theorem d_Page_laySample_15 : decode b_Page_laySample 15 = .ok (.getfield 9, 3) := by decide +kernel
theorem d_Page_laySample_18 : decode b_Page_laySample 18 = .ok (.imul, 1) := by decide +kernel
theorem d_Page_laySample_19 : decode b_Page_laySample 19 = .ok (.iload_n 1, 1) := by decide +kernel
theorem d_Page_laySample_20 : decode b_Page_laySample 20 = .ok (.iadd, 1) := by decide +kernel
theorem d_Page_laySample_21 : decode b_Page_laySample 21 = .ok (.aload_n 0, 1) := by decide +kernel
theorem d_Page_laySample_22 : decode b_Page_laySample 22 = .ok (.getfield 18, 3) := by decide +kernel
theorem d_Page_laySample_25 : decode b_Page_laySample 25 = .ok (.iload_n 2, 1) := by decide +kernel
theorem d_Page_laySample_26 : decode b_Page_laySample 26 = .ok (.aload_n 0, 1) := by decide +kernel
theorem d_Page_laySample_27 : decode b_Page_laySample 27 = .ok (.getfield 9, 3) := by decide +kernel
theorem d_Page_laySample_30 : decode b_Page_laySample 30 = .ok (.imul, 1) := by decide +kernel
theorem d_Page_laySample_31 : decode b_Page_laySample 31 = .ok (.iload_n 1, 1) := by decide +kernel
theorem d_Page_laySample_32 : decode b_Page_laySample 32 = .ok (.iadd, 1) := by decide +kernel
theorem d_Page_laySample_33 : decode b_Page_laySample 33 = .ok (.baload, 1) := by decide +kernel
theorem d_Page_laySample_34 : decode b_Page_laySample 34 = .ok (.iload_n 3, 1) := by decide +kernel
theorem d_Page_laySample_35 : decode b_Page_laySample 35 = .ok (.iload 4, 2) := by decide +kernel
theorem d_Page_laySample_37 : decode b_Page_laySample 37 = .ok (.invokestatic 76, 3) := by decide +kernel
theorem d_Page_laySample_40 : decode b_Page_laySample 40 = .ok (.bastore, 1) := by decide +kernel
theorem d_Page_laySample_41 : decode b_Page_laySample 41 = .ok (.return_, 1) := by decide +kernel
theorem d_Page_composed_0 : decode b_Page_composed 0 = .ok (.iload_n 2, 1) := by decide +kernel
theorem d_Page_composed_1 : decode b_Page_composed 1 = .ok (.tableswitch 81 0 3 #[31, 45, 59, 70], 31) := by decide +kernel
theorem d_Page_composed_32 : decode b_Page_composed 32 = .ok (.iload_n 0, 1) := by decide +kernel
theorem d_Page_composed_33 : decode b_Page_composed 33 = .ok (.ifCond .ne 7, 3) := by decide +kernel
theorem d_Page_composed_36 : decode b_Page_composed 36 = .ok (.iload_n 1, 1) := by decide +kernel
theorem d_Page_composed_37 : decode b_Page_composed 37 = .ok (.ifCond .eq 7, 3) := by decide +kernel
theorem d_Page_composed_40 : decode b_Page_composed 40 = .ok (.iconst 1, 1) := by decide +kernel
theorem d_Page_composed_41 : decode b_Page_composed 41 = .ok (.goto 4, 3) := by decide +kernel
theorem d_Page_composed_44 : decode b_Page_composed 44 = .ok (.iconst 0, 1) := by decide +kernel
theorem d_Page_composed_45 : decode b_Page_composed 45 = .ok (.ireturn, 1) := by decide +kernel
theorem d_Page_composed_46 : decode b_Page_composed 46 = .ok (.iload_n 0, 1) := by decide +kernel
theorem d_Page_composed_47 : decode b_Page_composed 47 = .ok (.ifCond .eq 11, 3) := by decide +kernel
theorem d_Page_composed_50 : decode b_Page_composed 50 = .ok (.iload_n 1, 1) := by decide +kernel
theorem d_Page_composed_51 : decode b_Page_composed 51 = .ok (.ifCond .eq 7, 3) := by decide +kernel
theorem d_Page_composed_54 : decode b_Page_composed 54 = .ok (.iconst 1, 1) := by decide +kernel
theorem d_Page_composed_55 : decode b_Page_composed 55 = .ok (.goto 4, 3) := by decide +kernel
theorem d_Page_composed_58 : decode b_Page_composed 58 = .ok (.iconst 0, 1) := by decide +kernel
theorem d_Page_composed_59 : decode b_Page_composed 59 = .ok (.ireturn, 1) := by decide +kernel
theorem d_Page_composed_60 : decode b_Page_composed 60 = .ok (.iload_n 0, 1) := by decide +kernel
theorem d_Page_composed_61 : decode b_Page_composed 61 = .ok (.iload_n 1, 1) := by decide +kernel
theorem d_Page_composed_62 : decode b_Page_composed 62 = .ok (.if_icmp .eq 7, 3) := by decide +kernel
theorem d_Page_composed_65 : decode b_Page_composed 65 = .ok (.iconst 1, 1) := by decide +kernel
theorem d_Page_composed_66 : decode b_Page_composed 66 = .ok (.goto 4, 3) := by decide +kernel
theorem d_Page_composed_69 : decode b_Page_composed 69 = .ok (.iconst 0, 1) := by decide +kernel
theorem d_Page_composed_70 : decode b_Page_composed 70 = .ok (.ireturn, 1) := by decide +kernel
theorem d_Page_composed_71 : decode b_Page_composed 71 = .ok (.iload_n 0, 1) := by decide +kernel
theorem d_Page_composed_72 : decode b_Page_composed 72 = .ok (.iload_n 1, 1) := by decide +kernel
theorem d_Page_composed_73 : decode b_Page_composed 73 = .ok (.if_icmp .ne 7, 3) := by decide +kernel
theorem d_Page_composed_76 : decode b_Page_composed 76 = .ok (.iconst 1, 1) := by decide +kernel
theorem d_Page_composed_77 : decode b_Page_composed 77 = .ok (.goto 4, 3) := by decide +kernel
theorem d_Page_composed_80 : decode b_Page_composed 80 = .ok (.iconst 0, 1) := by decide +kernel
theorem d_Page_composed_81 : decode b_Page_composed 81 = .ok (.ireturn, 1) := by decide +kernel
theorem d_Page_composed_82 : decode b_Page_composed 82 = .ok (.iload_n 1, 1) := by decide +kernel
theorem d_Page_composed_83 : decode b_Page_composed 83 = .ok (.ireturn, 1) := by decide +kernel
theorem d_Reader_init_0 : decode b_Reader_init 0 = .ok (.aload_n 0, 1) := by decide +kernel
theorem d_Reader_init_1 : decode b_Reader_init 1 = .ok (.invokespecial 3, 3) := by decide +kernel
theorem d_Reader_init_4 : decode b_Reader_init 4 = .ok (.aload_n 0, 1) := by decide +kernel
theorem d_Reader_init_5 : decode b_Reader_init 5 = .ok (.aload_n 1, 1) := by decide +kernel
theorem d_Reader_init_6 : decode b_Reader_init 6 = .ok (.putfield 9, 3) := by decide +kernel
theorem d_Reader_init_9 : decode b_Reader_init 9 = .ok (.aload_n 0, 1) := by decide +kernel
theorem d_Reader_init_10 : decode b_Reader_init 10 = .ok (.aload_n 2, 1) := by decide +kernel
theorem d_Reader_init_11 : decode b_Reader_init 11 = .ok (.putfield 15, 3) := by decide +kernel
theorem d_Reader_init_14 : decode b_Reader_init 14 = .ok (.return_, 1) := by decide +kernel
theorem d_Reader_bitsRead_0 : decode b_Reader_bitsRead 0 = .ok (.aload_n 0, 1) := by decide +kernel
theorem d_Reader_bitsRead_1 : decode b_Reader_bitsRead 1 = .ok (.getfield 15, 3) := by decide +kernel
theorem d_Reader_bitsRead_4 : decode b_Reader_bitsRead 4 = .ok (.getfield 19, 3) := by decide +kernel
theorem d_Reader_bitsRead_7 : decode b_Reader_bitsRead 7 = .ok (.ireturn, 1) := by decide +kernel
theorem d_Reader_readAll_0 : decode b_Reader_readAll 0 = .ok (.aload_n 0, 1) := by decide +kernel
theorem d_Reader_readAll_1 : decode b_Reader_readAll 1 = .ok (.getfield 15, 3) := by decide +kernel
theorem d_Reader_readAll_4 : decode b_Reader_readAll 4 = .ok (.invokevirtual 25, 3) := by decide +kernel
theorem d_Reader_readAll_7 : decode b_Reader_readAll 7 = .ok (.aload_n 1, 1) := by decide +kernel
theorem d_Reader_readAll_8 : decode b_Reader_readAll 8 = .ok (.invokevirtual 28, 3) := by decide +kernel
theorem d_Reader_readAll_11 : decode b_Reader_readAll 11 = .ok (.aload_n 0, 1) := by decide +kernel
theorem d_Reader_readAll_12 : decode b_Reader_readAll 12 = .ok (.getfield 15, 3) := by decide +kernel
theorem d_Reader_readAll_15 : decode b_Reader_readAll 15 = .ok (.invokevirtual 33, 3) := by decide +kernel
theorem d_Reader_readAll_18 : decode b_Reader_readAll 18 = .ok (.istore_n 2, 1) := by decide +kernel
theorem d_Reader_readAll_19 : decode b_Reader_readAll 19 = .ok (.iload_n 2, 1) := by decide +kernel
theorem d_Reader_readAll_20 : decode b_Reader_readAll 20 = .ok (.bipush 40, 2) := by decide +kernel
theorem d_Reader_readAll_22 : decode b_Reader_readAll 22 = .ok (.if_icmp .le 11, 3) := by decide +kernel
theorem d_Reader_readAll_25 : decode b_Reader_readAll 25 = .ok (.aload_n 0, 1) := by decide +kernel
theorem d_Reader_readAll_26 : decode b_Reader_readAll 26 = .ok (.getfield 15, 3) := by decide +kernel
theorem d_Reader_readAll_29 : decode b_Reader_readAll 29 = .ok (.iconst 2, 1) := by decide +kernel
theorem d_Reader_readAll_30 : decode b_Reader_readAll 30 = .ok (.invokevirtual 37, 3) := by decide +kernel
theorem d_Reader_readAll_33 : decode b_Reader_readAll 33 = .ok (.iconst 0, 1) := by decide +kernel
theorem d_Reader_readAll_34 : decode b_Reader_readAll 34 = .ok (.istore_n 3, 1) := by decide +kernel
theorem d_Reader_readAll_35 : decode b_Reader_readAll 35 = .ok (.iload_n 3, 1) := by decide +kernel
theorem d_Reader_readAll_36 : decode b_Reader_readAll 36 = .ok (.iconst 4, 1) := by decide +kernel
theorem d_Reader_readAll_37 : decode b_Reader_readAll 37 = .ok (.if_icmp .ge 36, 3) := by decide +kernel
theorem d_Reader_readAll_40 : decode b_Reader_readAll 40 = .ok (.getstatic 41, 3) := by decide +kernel
theorem d_Reader_readAll_43 : decode b_Reader_readAll 43 = .ok (.iload_n 3, 1) := by decide +kernel
theorem d_Reader_readAll_44 : decode b_Reader_readAll 44 = .ok (.iaload, 1) := by decide +kernel
theorem d_Reader_readAll_45 : decode b_Reader_readAll 45 = .ok (.istore 4, 2) := by decide +kernel
theorem d_Reader_readAll_47 : decode b_Reader_readAll 47 = .ok (.aload_n 1, 1) := by decide +kernel
theorem d_Reader_readAll_48 : decode b_Reader_readAll 48 = .ok (.getfield 45, 3) := by decide +kernel
theorem d_Reader_readAll_51 : decode b_Reader_readAll 51 = .ok (.iload 4, 2) := by decide +kernel
theorem d_Reader_readAll_53 : decode b_Reader_readAll 53 = .ok (.aload_n 0, 1) := by decide +kernel
theorem d_Reader_readAll_54 : decode b_Reader_readAll 54 = .ok (.getfield 15, 3) := by decide +kernel
theorem d_Reader_readAll_57 : decode b_Reader_readAll 57 = .ok (.getstatic 48, 3) := by decide +kernel
theorem d_Reader_readAll_60 : decode b_Reader_readAll 60 = .ok (.iload 4, 2) := by decide +kernel
theorem d_Reader_readAll_62 : decode b_Reader_readAll 62 = .ok (.iaload, 1) := by decide +kernel
theorem d_Reader_readAll_63 : decode b_Reader_readAll 63 = .ok (.invokevirtual 51, 3) := by decide +kernel
theorem d_Reader_readAll_66 : decode b_Reader_readAll 66 = .ok (.iastore, 1) := by decide +kernel
theorem d_Reader_readAll_67 : decode b_Reader_readAll 67 = .ok (.iinc 3 1, 3) := by decide +kernel
theorem d_Reader_readAll_70 : decode b_Reader_readAll 70 = .ok (.goto (-35), 3) := by decide +kernel
theorem d_Reader_readAll_73 : decode b_Reader_readAll 73 = .ok (.aload_n 1, 1) := by decide +kernel
theorem d_Reader_readAll_74 : decode b_Reader_readAll 74 = .ok (.getfield 45, 3) := by decide +kernel
theorem d_Reader_readAll_77 : decode b_Reader_readAll 77 = .ok (.iconst 3, 1) := by decide +kernel
theorem d_Reader_readAll_78 : decode b_Reader_readAll 78 = .ok (.iaload, 1) := by decide +kernel
theorem d_Reader_readAll_79 : decode b_Reader_readAll 79 = .ok (.getstatic 55, 3) := by decide +kernel
theorem d_Reader_readAll_82 : decode b_Reader_readAll 82 = .ok (.iconst 3, 1) := by decide +kernel
theorem d_Reader_readAll_83 : decode b_Reader_readAll 83 = .ok (.iaload, 1) := by decide +kernel
theorem d_Reader_readAll_84 : decode b_Reader_readAll 84 = .ok (.if_icmp .le 11, 3) := by decide +kernel
theorem d_Reader_readAll_87 : decode b_Reader_readAll 87 = .ok (.aload_n 0, 1) := by decide +kernel
theorem d_Reader_readAll_88 : decode b_Reader_readAll 88 = .ok (.getfield 15, 3) := by decide +kernel
theorem d_Reader_readAll_91 : decode b_Reader_readAll 91 = .ok (.iconst 3, 1) := by decide +kernel
theorem d_Reader_readAll_92 : decode b_Reader_readAll 92 = .ok (.invokevirtual 37, 3) := by decide +kernel
theorem d_Reader_readAll_95 : decode b_Reader_readAll 95 = .ok (.aload_n 0, 1) := by decide +kernel
theorem d_Reader_readAll_96 : decode b_Reader_readAll 96 = .ok (.getfield 9, 3) := by decide +kernel
theorem d_Reader_readAll_99 : decode b_Reader_readAll 99 = .ok (.aload_n 0, 1) := by decide +kernel
theorem d_Reader_readAll_100 : decode b_Reader_readAll 100 = .ok (.getfield 15, 3) := by decide +kernel
theorem d_Reader_readAll_103 : decode b_Reader_readAll 103 = .ok (.iload_n 2, 1) := by decide +kernel
theorem d_Reader_readAll_104 : decode b_Reader_readAll 104 = .ok (.invokeinterface 58 3, 5) := by decide +kernel
theorem d_Reader_readAll_109 : decode b_Reader_readAll 109 = .ok (.aload_n 0, 1) := by decide +kernel
theorem d_Reader_readAll_110 : decode b_Reader_readAll 110 = .ok (.aload_n 1, 1) := by decide +kernel
theorem d_Reader_readAll_111 : decode b_Reader_readAll 111 = .ok (.iload_n 2, 1) := by decide +kernel
theorem d_Reader_readAll_112 : decode b_Reader_readAll 112 = .ok (.invokevirtual 64, 3) := by decide +kernel
theorem d_Reader_readAll_115 : decode b_Reader_readAll 115 = .ok (.aload_n 0, 1) := by decide +kernel
theorem d_Reader_readAll_116 : decode b_Reader_readAll 116 = .ok (.getfield 15, 3) := by decide +kernel
theorem d_Reader_readAll_119 : decode b_Reader_readAll 119 = .ok (.invokevirtual 68, 3) := by decide +kernel
theorem d_Reader_readAll_122 : decode b_Reader_readAll 122 = .ok (.aload_n 0, 1) := by decide +kernel
theorem d_Reader_readAll_123 : decode b_Reader_readAll 123 = .ok (.getfield 15, 3) := by decide +kernel
theorem d_Reader_readAll_126 : decode b_Reader_readAll 126 = .ok (.getfield 71, 3) := by decide +kernel
theorem d_Reader_readAll_129 : decode b_Reader_readAll 129 = .ok (.ireturn, 1) := by decide +kernel
theorem d_Reader_readInstances_0 : decode b_Reader_readInstances 0 = .ok (.bipush (-17), 2) := by decide +kernel
theorem d_Reader_readInstances_2 : decode b_Reader_readInstances 2 = .ok (.istore_n 3, 1) := by decide +kernel
theorem d_Reader_readInstances_3 : decode b_Reader_readInstances 3 = .ok (.iconst 0, 1) := by decide +kernel
theorem d_Reader_readInstances_4 : decode b_Reader_readInstances 4 = .ok (.istore 4, 2) := by decide +kernel
theorem d_Reader_readInstances_6 : decode b_Reader_readInstances 6 = .ok (.iconst 0, 1) := by decide +kernel
theorem d_Reader_readInstances_7 : decode b_Reader_readInstances 7 = .ok (.istore 5, 2) := by decide +kernel
theorem d_Reader_readInstances_9 : decode b_Reader_readInstances 9 = .ok (.iconst 0, 1) := by decide +kernel
theorem d_Reader_readInstances_10 : decode b_Reader_readInstances 10 = .ok (.istore 6, 2) := by decide +kernel
theorem d_Reader_readInstances_12 : decode b_Reader_readInstances 12 = .ok (.iload 6, 2) := by decide +kernel
theorem d_Reader_readInstances_14 : decode b_Reader_readInstances 14 = .ok (.iload_n 2, 1) := by decide +kernel
theorem d_Reader_readInstances_15 : decode b_Reader_readInstances 15 = .ok (.if_icmp .ge 104, 3) := by decide +kernel
theorem d_Reader_readInstances_18 : decode b_Reader_readInstances 18 = .ok (.aload_n 0, 1) := by decide +kernel
theorem d_Reader_readInstances_19 : decode b_Reader_readInstances 19 = .ok (.getfield 15, 3) := by decide +kernel
theorem d_Reader_readInstances_22 : decode b_Reader_readInstances 22 = .ok (.invokevirtual 74, 3) := by decide +kernel
theorem d_Reader_readInstances_25 : decode b_Reader_readInstances 25 = .ok (.ifCond .ne 94, 3) := by decide +kernel
theorem d_Reader_readInstances_28 : decode b_Reader_readInstances 28 = .ok (.iload 5, 2) := by decide +kernel
theorem d_Reader_readInstances_30 : decode b_Reader_readInstances 30 = .ok (.ifCond .eq 24, 3) := by decide +kernel
theorem d_Reader_readInstances_33 : decode b_Reader_readInstances 33 = .ok (.aload_n 1, 1) := by decide +kernel
theorem d_Reader_readInstances_34 : decode b_Reader_readInstances 34 = .ok (.iload 6, 2) := by decide +kernel
theorem d_Reader_readInstances_36 : decode b_Reader_readInstances 36 = .ok (.iconst 1, 1) := by decide +kernel
theorem d_Reader_readInstances_37 : decode b_Reader_readInstances 37 = .ok (.isub, 1) := by decide +kernel
theorem d_Reader_readInstances_38 : decode b_Reader_readInstances 38 = .ok (.invokevirtual 78, 3) := by decide +kernel
theorem d_Reader_readInstances_41 : decode b_Reader_readInstances 41 = .ok (.aload_n 0, 1) := by decide +kernel
theorem d_Reader_readInstances_42 : decode b_Reader_readInstances 42 = .ok (.getfield 15, 3) := by decide +kernel
theorem d_Reader_readInstances_45 : decode b_Reader_readInstances 45 = .ok (.invokevirtual 81, 3) := by decide +kernel
theorem d_Reader_readInstances_48 : decode b_Reader_readInstances 48 = .ok (.iadd, 1) := by decide +kernel
theorem d_Reader_readInstances_49 : decode b_Reader_readInstances 49 = .ok (.istore 7, 2) := by decide +kernel
theorem d_Reader_readInstances_51 : decode b_Reader_readInstances 51 = .ok (.goto 31, 3) := by decide +kernel
theorem d_Reader_readInstances_54 : decode b_Reader_readInstances 54 = .ok (.iload_n 3, 1) := by decide +kernel
theorem d_Reader_readInstances_55 : decode b_Reader_readInstances 55 = .ok (.aload_n 0, 1) := by decide +kernel
theorem d_Reader_readInstances_56 : decode b_Reader_readInstances 56 = .ok (.getfield 15, 3) := by decide +kernel
theorem d_Reader_readInstances_59 : decode b_Reader_readInstances 59 = .ok (.invokevirtual 33, 3) := by decide +kernel
theorem d_Reader_readInstances_62 : decode b_Reader_readInstances 62 = .ok (.iconst 1, 1) := by decide +kernel
theorem d_Reader_readInstances_63 : decode b_Reader_readInstances 63 = .ok (.iadd, 1) := by decide +kernel
theorem d_Reader_readInstances_64 : decode b_Reader_readInstances 64 = .ok (.iadd, 1) := by decide +kernel
theorem d_Reader_readInstances_65 : decode b_Reader_readInstances 65 = .ok (.istore_n 3, 1) := by decide +kernel
theorem d_Reader_readInstances_66 : decode b_Reader_readInstances 66 = .ok (.iload 4, 2) := by decide +kernel
theorem d_Reader_readInstances_68 : decode b_Reader_readInstances 68 = .ok (.aload_n 0, 1) := by decide +kernel
theorem d_Reader_readInstances_69 : decode b_Reader_readInstances 69 = .ok (.getfield 15, 3) := by decide +kernel
theorem d_Reader_readInstances_72 : decode b_Reader_readInstances 72 = .ok (.invokevirtual 81, 3) := by decide +kernel
theorem d_Reader_readInstances_75 : decode b_Reader_readInstances 75 = .ok (.iadd, 1) := by decide +kernel
theorem d_Reader_readInstances_76 : decode b_Reader_readInstances 76 = .ok (.istore 7, 2) := by decide +kernel
theorem d_Reader_readInstances_78 : decode b_Reader_readInstances 78 = .ok (.iload 7, 2) := by decide +kernel
theorem d_Reader_readInstances_80 : decode b_Reader_readInstances 80 = .ok (.istore 4, 2) := by decide +kernel
theorem d_Reader_readInstances_82 : decode b_Reader_readInstances 82 = .ok (.aload_n 0, 1) := by decide +kernel
theorem d_Reader_readInstances_83 : decode b_Reader_readInstances 83 = .ok (.aload_n 1, 1) := by decide +kernel
theorem d_Reader_readInstances_84 : decode b_Reader_readInstances 84 = .ok (.iload 7, 2) := by decide +kernel
theorem d_Reader_readInstances_86 : decode b_Reader_readInstances 86 = .ok (.iload_n 3, 1) := by decide +kernel
theorem d_Reader_readInstances_87 : decode b_Reader_readInstances 87 = .ok (.invokevirtual 84, 3) := by decide +kernel
theorem d_Reader_readInstances_90 : decode b_Reader_readInstances 90 = .ok (.aload_n 0, 1) := by decide +kernel
theorem d_Reader_readInstances_91 : decode b_Reader_readInstances 91 = .ok (.aload_n 1, 1) := by decide +kernel
theorem d_Reader_readInstances_92 : decode b_Reader_readInstances 92 = .ok (.invokevirtual 88, 3) := by decide +kernel
theorem d_Reader_readInstances_95 : decode b_Reader_readInstances 95 = .ok (.aload_n 0, 1) := by decide +kernel
theorem d_Reader_readInstances_96 : decode b_Reader_readInstances 96 = .ok (.getfield 15, 3) := by decide +kernel
theorem d_Reader_readInstances_99 : decode b_Reader_readInstances 99 = .ok (.invokevirtual 92, 3) := by decide +kernel
theorem d_Reader_readInstances_102 : decode b_Reader_readInstances 102 = .ok (.iconst 1, 1) := by decide +kernel
theorem d_Reader_readInstances_103 : decode b_Reader_readInstances 103 = .ok (.if_icmp .ne 7, 3) := by decide +kernel
theorem d_Reader_readInstances_106 : decode b_Reader_readInstances 106 = .ok (.iconst 1, 1) := by decide +kernel
theorem d_Reader_readInstances_107 : decode b_Reader_readInstances 107 = .ok (.goto 4, 3) := by decide +kernel
theorem d_Reader_readInstances_110 : decode b_Reader_readInstances 110 = .ok (.iconst 0, 1) := by decide +kernel
theorem d_Reader_readInstances_111 : decode b_Reader_readInstances 111 = .ok (.istore 5, 2) := by decide +kernel
theorem d_Reader_readInstances_113 : decode b_Reader_readInstances 113 = .ok (.iinc 6 1, 3) := by decide +kernel
theorem d_Reader_readInstances_116 : decode b_Reader_readInstances 116 = .ok (.goto (-104), 3) := by decide +kernel
theorem d_Reader_readInstances_119 : decode b_Reader_readInstances 119 = .ok (.iload 5, 2) := by decide +kernel
theorem d_Reader_readInstances_121 : decode b_Reader_readInstances 121 = .ok (.ifCond .eq 11, 3) := by decide +kernel
theorem d_Reader_readInstances_124 : decode b_Reader_readInstances 124 = .ok (.aload_n 0, 1) := by decide +kernel
theorem d_Reader_readInstances_125 : decode b_Reader_readInstances 125 = .ok (.getfield 15, 3) := by decide +kernel
theorem d_Reader_readInstances_128 : decode b_Reader_readInstances 128 = .ok (.iconst 2, 1) := by decide +kernel
theorem d_Reader_readInstances_129 : decode b_Reader_readInstances 129 = .ok (.invokevirtual 37, 3) := by decide +kernel
theorem d_Reader_readInstances_132 : decode b_Reader_readInstances 132 = .ok (.return_, 1) := by decide +kernel
theorem d_Reader_readPlaced_0 : decode b_Reader_readPlaced 0 = .ok (.aload_n 1, 1) := by decide +kernel
theorem d_Reader_readPlaced_1 : decode b_Reader_readPlaced 1 = .ok (.getfield 45, 3) := by decide +kernel
theorem d_Reader_readPlaced_4 : decode b_Reader_readPlaced 4 = .ok (.iconst 2, 1) := by decide +kernel
theorem d_Reader_readPlaced_5 : decode b_Reader_readPlaced 5 = .ok (.iaload, 1) := by decide +kernel
theorem d_Reader_readPlaced_6 : decode b_Reader_readPlaced 6 = .ok (.istore 4, 2) := by decide +kernel
theorem d_Reader_readPlaced_8 : decode b_Reader_readPlaced 8 = .ok (.iload_n 3, 1) := by decide +kernel
theorem d_Reader_readPlaced_9 : decode b_Reader_readPlaced 9 = .ok (.iload 4, 2) := by decide +kernel
theorem d_Reader_readPlaced_11 : decode b_Reader_readPlaced 11 = .ok (.ishl, 1) := by decide +kernel
theorem d_Reader_readPlaced_12 : decode b_Reader_readPlaced 12 = .ok (.aload_n 0, 1) := by decide +kernel
theorem d_Reader_readPlaced_13 : decode b_Reader_readPlaced 13 = .ok (.getfield 15, 3) := by decide +kernel
theorem d_Reader_readPlaced_16 : decode b_Reader_readPlaced 16 = .ok (.iload 4, 2) := by decide +kernel
theorem d_Reader_readPlaced_18 : decode b_Reader_readPlaced 18 = .ok (.invokevirtual 51, 3) := by decide +kernel
theorem d_Reader_readPlaced_21 : decode b_Reader_readPlaced 21 = .ok (.iadd, 1) := by decide +kernel
theorem d_Reader_readPlaced_22 : decode b_Reader_readPlaced 22 = .ok (.istore 5, 2) := by decide +kernel
theorem d_Reader_readPlaced_24 : decode b_Reader_readPlaced 24 = .ok (.aload_n 0, 1) := by decide +kernel
theorem d_Reader_readPlaced_25 : decode b_Reader_readPlaced 25 = .ok (.getfield 9, 3) := by decide +kernel
theorem d_Reader_readPlaced_28 : decode b_Reader_readPlaced 28 = .ok (.aload_n 0, 1) := by decide +kernel
theorem d_Reader_readPlaced_29 : decode b_Reader_readPlaced 29 = .ok (.getfield 15, 3) := by decide +kernel
theorem d_Reader_readPlaced_32 : decode b_Reader_readPlaced 32 = .ok (.invokeinterface 95 2, 5) := by decide +kernel
theorem d_Reader_readPlaced_37 : decode b_Reader_readPlaced 37 = .ok (.istore 6, 2) := by decide +kernel
theorem d_Reader_readPlaced_39 : decode b_Reader_readPlaced 39 = .ok (.aload_n 0, 1) := by decide +kernel
theorem d_Reader_readPlaced_40 : decode b_Reader_readPlaced 40 = .ok (.getfield 15, 3) := by decide +kernel
theorem d_Reader_readPlaced_43 : decode b_Reader_readPlaced 43 = .ok (.invokevirtual 74, 3) := by decide +kernel
theorem d_Reader_readPlaced_46 : decode b_Reader_readPlaced 46 = .ok (.ifCond .ne 24, 3) := by decide +kernel
theorem d_Reader_readPlaced_49 : decode b_Reader_readPlaced 49 = .ok (.aload_n 1, 1) := by decide +kernel
theorem d_Reader_readPlaced_50 : decode b_Reader_readPlaced 50 = .ok (.iload 6, 2) := by decide +kernel
theorem d_Reader_readPlaced_52 : decode b_Reader_readPlaced 52 = .ok (.iload_n 2, 1) := by decide +kernel
theorem d_Reader_readPlaced_53 : decode b_Reader_readPlaced 53 = .ok (.iload 5, 2) := by decide +kernel
theorem d_Reader_readPlaced_55 : decode b_Reader_readPlaced 55 = .ok (.invokevirtual 99, 3) := by decide +kernel
theorem d_Reader_readPlaced_58 : decode b_Reader_readPlaced 58 = .ok (.ifCond .ne 12, 3) := by decide +kernel
theorem d_Reader_readPlaced_61 : decode b_Reader_readPlaced 61 = .ok (.aload_n 0, 1) := by decide +kernel
theorem d_Reader_readPlaced_62 : decode b_Reader_readPlaced 62 = .ok (.getfield 15, 3) := by decide +kernel
theorem d_Reader_readPlaced_65 : decode b_Reader_readPlaced 65 = .ok (.bipush 6, 2) := by decide +kernel
theorem d_Reader_readPlaced_67 : decode b_Reader_readPlaced 67 = .ok (.invokevirtual 37, 3) := by decide +kernel
theorem d_Reader_readPlaced_70 : decode b_Reader_readPlaced 70 = .ok (.return_, 1) := by decide +kernel
theorem d_Reader_readDiffers_0 : decode b_Reader_readDiffers 0 = .ok (.aload_n 0, 1) := by decide +kernel
theorem d_Reader_readDiffers_1 : decode b_Reader_readDiffers 1 = .ok (.getfield 15, 3) := by decide +kernel
theorem d_Reader_readDiffers_4 : decode b_Reader_readDiffers 4 = .ok (.invokevirtual 92, 3) := by decide +kernel
theorem d_Reader_readDiffers_7 : decode b_Reader_readDiffers 7 = .ok (.ifCond .eq 10, 3) := by decide +kernel
theorem d_Reader_readDiffers_10 : decode b_Reader_readDiffers 10 = .ok (.aload_n 1, 1) := by decide +kernel
theorem d_Reader_readDiffers_11 : decode b_Reader_readDiffers 11 = .ok (.getfield 103, 3) := by decide +kernel
theorem d_Reader_readDiffers_14 : decode b_Reader_readDiffers 14 = .ok (.ifCond .ne 4, 3) := by decide +kernel
theorem d_Reader_readDiffers_17 : decode b_Reader_readDiffers 17 = .ok (.return_, 1) := by decide +kernel
theorem d_Reader_readDiffers_18 : decode b_Reader_readDiffers 18 = .ok (.aload_n 1, 1) := by decide +kernel
theorem d_Reader_readDiffers_19 : decode b_Reader_readDiffers 19 = .ok (.getfield 103, 3) := by decide +kernel
theorem d_Reader_readDiffers_22 : decode b_Reader_readDiffers 22 = .ok (.iconst 1, 1) := by decide +kernel
theorem d_Reader_readDiffers_23 : decode b_Reader_readDiffers 23 = .ok (.isub, 1) := by decide +kernel
theorem d_Reader_readDiffers_24 : decode b_Reader_readDiffers 24 = .ok (.istore_n 2, 1) := by decide +kernel
theorem d_Reader_readDiffers_25 : decode b_Reader_readDiffers 25 = .ok (.aload_n 1, 1) := by decide +kernel
theorem d_Reader_readDiffers_26 : decode b_Reader_readDiffers 26 = .ok (.getfield 106, 3) := by decide +kernel
theorem d_Reader_readDiffers_29 : decode b_Reader_readDiffers 29 = .ok (.aload_n 1, 1) := by decide +kernel
theorem d_Reader_readDiffers_30 : decode b_Reader_readDiffers 30 = .ok (.getfield 110, 3) := by decide +kernel
theorem d_Reader_readDiffers_33 : decode b_Reader_readDiffers 33 = .ok (.iload_n 2, 1) := by decide +kernel
theorem d_Reader_readDiffers_34 : decode b_Reader_readDiffers 34 = .ok (.iaload, 1) := by decide +kernel
theorem d_Reader_readDiffers_35 : decode b_Reader_readDiffers 35 = .ok (.invokevirtual 113, 3) := by decide +kernel
theorem d_Reader_readDiffers_38 : decode b_Reader_readDiffers 38 = .ok (.istore_n 3, 1) := by decide +kernel
theorem d_Reader_readDiffers_39 : decode b_Reader_readDiffers 39 = .ok (.iconst 0, 1) := by decide +kernel
theorem d_Reader_readDiffers_40 : decode b_Reader_readDiffers 40 = .ok (.istore 4, 2) := by decide +kernel
theorem d_Reader_readDiffers_42 : decode b_Reader_readDiffers 42 = .ok (.iconst 0, 1) := by decide +kernel
theorem d_Reader_readDiffers_43 : decode b_Reader_readDiffers 43 = .ok (.istore 5, 2) := by decide +kernel
theorem d_Reader_readDiffers_45 : decode b_Reader_readDiffers 45 = .ok (.iload 5, 2) := by decide +kernel
theorem d_Reader_readDiffers_47 : decode b_Reader_readDiffers 47 = .ok (.iload_n 3, 1) := by decide +kernel
theorem d_Reader_readDiffers_48 : decode b_Reader_readDiffers 48 = .ok (.if_icmp .gt 116, 3) := by decide +kernel
theorem d_Reader_readDiffers_51 : decode b_Reader_readDiffers 51 = .ok (.iload 4, 2) := by decide +kernel
theorem d_Reader_readDiffers_53 : decode b_Reader_readDiffers 53 = .ok (.iload_n 3, 1) := by decide +kernel
theorem d_Reader_readDiffers_54 : decode b_Reader_readDiffers 54 = .ok (.if_icmp .ge 110, 3) := by decide +kernel
theorem d_Reader_readDiffers_57 : decode b_Reader_readDiffers 57 = .ok (.aload_n 0, 1) := by decide +kernel
theorem d_Reader_readDiffers_58 : decode b_Reader_readDiffers 58 = .ok (.getfield 15, 3) := by decide +kernel
theorem d_Reader_readDiffers_61 : decode b_Reader_readDiffers 61 = .ok (.invokevirtual 33, 3) := by decide +kernel
theorem d_Reader_readDiffers_64 : decode b_Reader_readDiffers 64 = .ok (.istore 6, 2) := by decide +kernel
theorem d_Reader_readDiffers_66 : decode b_Reader_readDiffers 66 = .ok (.iload 6, 2) := by decide +kernel
theorem d_Reader_readDiffers_68 : decode b_Reader_readDiffers 68 = .ok (.iload_n 3, 1) := by decide +kernel
theorem d_Reader_readDiffers_69 : decode b_Reader_readDiffers 69 = .ok (.iload 4, 2) := by decide +kernel
theorem d_Reader_readDiffers_71 : decode b_Reader_readDiffers 71 = .ok (.isub, 1) := by decide +kernel
theorem d_Reader_readDiffers_72 : decode b_Reader_readDiffers 72 = .ok (.if_icmp .gt 13, 3) := by decide +kernel
theorem d_Reader_readDiffers_75 : decode b_Reader_readDiffers 75 = .ok (.iload 6, 2) := by decide +kernel
theorem d_Reader_readDiffers_77 : decode b_Reader_readDiffers 77 = .ok (.ifCond .ne 17, 3) := by decide +kernel
theorem d_Reader_readDiffers_80 : decode b_Reader_readDiffers 80 = .ok (.iload 5, 2) := by decide +kernel
theorem d_Reader_readDiffers_82 : decode b_Reader_readDiffers 82 = .ok (.ifCond .le 12, 3) := by decide +kernel
theorem d_Reader_readDiffers_85 : decode b_Reader_readDiffers 85 = .ok (.aload_n 0, 1) := by decide +kernel
theorem d_Reader_readDiffers_86 : decode b_Reader_readDiffers 86 = .ok (.getfield 15, 3) := by decide +kernel
theorem d_Reader_readDiffers_89 : decode b_Reader_readDiffers 89 = .ok (.bipush 7, 2) := by decide +kernel
theorem d_Reader_readDiffers_91 : decode b_Reader_readDiffers 91 = .ok (.invokevirtual 37, 3) := by decide +kernel
theorem d_Reader_readDiffers_94 : decode b_Reader_readDiffers 94 = .ok (.aload_n 0, 1) := by decide +kernel
theorem d_Reader_readDiffers_95 : decode b_Reader_readDiffers 95 = .ok (.getfield 15, 3) := by decide +kernel
theorem d_Reader_readDiffers_98 : decode b_Reader_readDiffers 98 = .ok (.invokevirtual 74, 3) := by decide +kernel
theorem d_Reader_readDiffers_101 : decode b_Reader_readDiffers 101 = .ok (.ifCond .eq 4, 3) := by decide +kernel
theorem d_Reader_readDiffers_104 : decode b_Reader_readDiffers 104 = .ok (.return_, 1) := by decide +kernel
theorem d_Reader_readDiffers_105 : decode b_Reader_readDiffers 105 = .ok (.iload 4, 2) := by decide +kernel
theorem d_Reader_readDiffers_107 : decode b_Reader_readDiffers 107 = .ok (.istore 7, 2) := by decide +kernel
theorem d_Reader_readDiffers_109 : decode b_Reader_readDiffers 109 = .ok (.iload 7, 2) := by decide +kernel
theorem d_Reader_readDiffers_111 : decode b_Reader_readDiffers 111 = .ok (.iload 4, 2) := by decide +kernel
theorem d_Reader_readDiffers_113 : decode b_Reader_readDiffers 113 = .ok (.iload 6, 2) := by decide +kernel
theorem d_Reader_readDiffers_115 : decode b_Reader_readDiffers 115 = .ok (.iadd, 1) := by decide +kernel
theorem d_Reader_readDiffers_116 : decode b_Reader_readDiffers 116 = .ok (.if_icmp .ge 35, 3) := by decide +kernel
theorem d_Reader_readDiffers_119 : decode b_Reader_readDiffers 119 = .ok (.iload 5, 2) := by decide +kernel
theorem d_Reader_readDiffers_121 : decode b_Reader_readDiffers 121 = .ok (.iconst 2, 1) := by decide +kernel
theorem d_Reader_readDiffers_122 : decode b_Reader_readDiffers 122 = .ok (.irem, 1) := by decide +kernel
theorem d_Reader_readDiffers_123 : decode b_Reader_readDiffers 123 = .ok (.iconst 1, 1) := by decide +kernel
theorem d_Reader_readDiffers_124 : decode b_Reader_readDiffers 124 = .ok (.if_icmp .ne 27, 3) := by decide +kernel
theorem d_Reader_readDiffers_127 : decode b_Reader_readDiffers 127 = .ok (.aload_n 1, 1) := by decide +kernel
theorem d_Reader_readDiffers_128 : decode b_Reader_readDiffers 128 = .ok (.getfield 118, 3) := by decide +kernel
theorem d_Reader_readDiffers_131 : decode b_Reader_readDiffers 131 = .ok (.iload_n 2, 1) := by decide +kernel
theorem d_Reader_readDiffers_132 : decode b_Reader_readDiffers 132 = .ok (.aload_n 1, 1) := by decide +kernel
theorem d_Reader_readDiffers_133 : decode b_Reader_readDiffers 133 = .ok (.getfield 118, 3) := by decide +kernel
theorem d_Reader_readDiffers_136 : decode b_Reader_readDiffers 136 = .ok (.iload_n 2, 1) := by decide +kernel
theorem d_Reader_readDiffers_137 : decode b_Reader_readDiffers 137 = .ok (.laload, 1) := by decide +kernel
theorem d_Reader_readDiffers_138 : decode b_Reader_readDiffers 138 = .ok (.iload 7, 2) := by decide +kernel
theorem d_Reader_readDiffers_140 : decode b_Reader_readDiffers 140 = .ok (.iconst 1, 1) := by decide +kernel
theorem d_Reader_readDiffers_141 : decode b_Reader_readDiffers 141 = .ok (.invokestatic 122, 3) := by decide +kernel
theorem d_Reader_readDiffers_144 : decode b_Reader_readDiffers 144 = .ok (.lastore, 1) := by decide +kernel
theorem d_Reader_readDiffers_145 : decode b_Reader_readDiffers 145 = .ok (.iinc 7 1, 3) := by decide +kernel
theorem d_Reader_readDiffers_148 : decode b_Reader_readDiffers 148 = .ok (.goto (-39), 3) := by decide +kernel
theorem d_Reader_readDiffers_151 : decode b_Reader_readDiffers 151 = .ok (.iload 4, 2) := by decide +kernel
theorem d_Reader_readDiffers_153 : decode b_Reader_readDiffers 153 = .ok (.iload 6, 2) := by decide +kernel
theorem d_Reader_readDiffers_155 : decode b_Reader_readDiffers 155 = .ok (.iadd, 1) := by decide +kernel
theorem d_Reader_readDiffers_156 : decode b_Reader_readDiffers 156 = .ok (.istore 4, 2) := by decide +kernel
theorem d_Reader_readDiffers_158 : decode b_Reader_readDiffers 158 = .ok (.iinc 5 1, 3) := by decide +kernel
theorem d_Reader_readDiffers_161 : decode b_Reader_readDiffers 161 = .ok (.goto (-116), 3) := by decide +kernel
theorem d_Reader_readDiffers_164 : decode b_Reader_readDiffers 164 = .ok (.return_, 1) := by decide +kernel
theorem d_Teller_init_0 : decode b_Teller_init 0 = .ok (.aload_n 0, 1) := by decide +kernel
theorem d_Teller_init_1 : decode b_Teller_init 1 = .ok (.invokespecial 3, 3) := by decide +kernel
theorem d_Teller_init_4 : decode b_Teller_init 4 = .ok (.aload_n 0, 1) := by decide +kernel
theorem d_Teller_init_5 : decode b_Teller_init 5 = .ok (.aload_n 1, 1) := by decide +kernel
theorem d_Teller_init_6 : decode b_Teller_init 6 = .ok (.putfield 9, 3) := by decide +kernel
theorem d_Teller_init_9 : decode b_Teller_init 9 = .ok (.aload_n 0, 1) := by decide +kernel
theorem d_Teller_init_10 : decode b_Teller_init 10 = .ok (.aload_n 2, 1) := by decide +kernel
theorem d_Teller_init_11 : decode b_Teller_init 11 = .ok (.putfield 15, 3) := by decide +kernel
theorem d_Teller_init_14 : decode b_Teller_init 14 = .ok (.return_, 1) := by decide +kernel
theorem d_Teller_prepare_0 : decode b_Teller_prepare 0 = .ok (.aload_n 1, 1) := by decide +kernel
theorem d_Teller_prepare_1 : decode b_Teller_prepare 1 = .ok (.invokevirtual 19, 3) := by decide +kernel
theorem d_Teller_prepare_4 : decode b_Teller_prepare 4 = .ok (.aload_n 0, 1) := by decide +kernel
theorem d_Teller_prepare_5 : decode b_Teller_prepare 5 = .ok (.getfield 9, 3) := by decide +kernel
theorem d_Teller_prepare_8 : decode b_Teller_prepare 8 = .ok (.aload_n 1, 1) := by decide +kernel
theorem d_Teller_prepare_9 : decode b_Teller_prepare 9 = .ok (.invokeinterface 24 2, 5) := by decide +kernel
theorem d_Teller_prepare_14 : decode b_Teller_prepare 14 = .ok (.return_, 1) := by decide +kernel
theorem d_Teller_tellAll_0 : decode b_Teller_tellAll 0 = .ok (.aload_n 0, 1) := by decide +kernel
theorem d_Teller_tellAll_1 : decode b_Teller_tellAll 1 = .ok (.getfield 15, 3) := by decide +kernel
theorem d_Teller_tellAll_4 : decode b_Teller_tellAll 4 = .ok (.iload_n 2, 1) := by decide +kernel
theorem d_Teller_tellAll_5 : decode b_Teller_tellAll 5 = .ok (.invokevirtual 30, 3) := by decide +kernel
theorem d_Teller_tellAll_8 : decode b_Teller_tellAll 8 = .ok (.aload_n 0, 1) := by decide +kernel
theorem d_Teller_tellAll_9 : decode b_Teller_tellAll 9 = .ok (.getfield 15, 3) := by decide +kernel
theorem d_Teller_tellAll_12 : decode b_Teller_tellAll 12 = .ok (.aload_n 1, 1) := by decide +kernel
theorem d_Teller_tellAll_13 : decode b_Teller_tellAll 13 = .ok (.getfield 36, 3) := by decide +kernel
theorem d_Teller_tellAll_16 : decode b_Teller_tellAll 16 = .ok (.invokevirtual 40, 3) := by decide +kernel
theorem d_Teller_tellAll_19 : decode b_Teller_tellAll 19 = .ok (.iconst 0, 1) := by decide +kernel
theorem d_Teller_tellAll_20 : decode b_Teller_tellAll 20 = .ok (.istore_n 3, 1) := by decide +kernel
theorem d_Teller_tellAll_21 : decode b_Teller_tellAll 21 = .ok (.iload_n 3, 1) := by decide +kernel
theorem d_Teller_tellAll_22 : decode b_Teller_tellAll 22 = .ok (.iconst 4, 1) := by decide +kernel
theorem d_Teller_tellAll_23 : decode b_Teller_tellAll 23 = .ok (.if_icmp .ge 36, 3) := by decide +kernel
theorem d_Teller_tellAll_26 : decode b_Teller_tellAll 26 = .ok (.getstatic 44, 3) := by decide +kernel
theorem d_Teller_tellAll_29 : decode b_Teller_tellAll 29 = .ok (.iload_n 3, 1) := by decide +kernel
theorem d_Teller_tellAll_30 : decode b_Teller_tellAll 30 = .ok (.iaload, 1) := by decide +kernel
theorem d_Teller_tellAll_31 : decode b_Teller_tellAll 31 = .ok (.istore 4, 2) := by decide +kernel
theorem d_Teller_tellAll_33 : decode b_Teller_tellAll 33 = .ok (.aload_n 0, 1) := by decide +kernel
theorem d_Teller_tellAll_34 : decode b_Teller_tellAll 34 = .ok (.getfield 15, 3) := by decide +kernel
theorem d_Teller_tellAll_37 : decode b_Teller_tellAll 37 = .ok (.aload_n 1, 1) := by decide +kernel
theorem d_Teller_tellAll_38 : decode b_Teller_tellAll 38 = .ok (.getfield 48, 3) := by decide +kernel
theorem d_Teller_tellAll_41 : decode b_Teller_tellAll 41 = .ok (.iload 4, 2) := by decide +kernel
theorem d_Teller_tellAll_43 : decode b_Teller_tellAll 43 = .ok (.iaload, 1) := by decide +kernel
theorem d_Teller_tellAll_44 : decode b_Teller_tellAll 44 = .ok (.getstatic 51, 3) := by decide +kernel
theorem d_Teller_tellAll_47 : decode b_Teller_tellAll 47 = .ok (.iload 4, 2) := by decide +kernel
theorem d_Teller_tellAll_49 : decode b_Teller_tellAll 49 = .ok (.iaload, 1) := by decide +kernel
theorem d_Teller_tellAll_50 : decode b_Teller_tellAll 50 = .ok (.invokevirtual 54, 3) := by decide +kernel
theorem d_Teller_tellAll_53 : decode b_Teller_tellAll 53 = .ok (.iinc 3 1, 3) := by decide +kernel
theorem d_Teller_tellAll_56 : decode b_Teller_tellAll 56 = .ok (.goto (-35), 3) := by decide +kernel
theorem d_Teller_tellAll_59 : decode b_Teller_tellAll 59 = .ok (.aload_n 0, 1) := by decide +kernel
theorem d_Teller_tellAll_60 : decode b_Teller_tellAll 60 = .ok (.getfield 9, 3) := by decide +kernel
theorem d_Teller_tellAll_63 : decode b_Teller_tellAll 63 = .ok (.aload_n 0, 1) := by decide +kernel
theorem d_Teller_tellAll_64 : decode b_Teller_tellAll 64 = .ok (.getfield 15, 3) := by decide +kernel
theorem d_Teller_tellAll_67 : decode b_Teller_tellAll 67 = .ok (.invokeinterface 58 2, 5) := by decide +kernel
theorem d_Teller_tellAll_72 : decode b_Teller_tellAll 72 = .ok (.aload_n 0, 1) := by decide +kernel
theorem d_Teller_tellAll_73 : decode b_Teller_tellAll 73 = .ok (.aload_n 1, 1) := by decide +kernel
theorem d_Teller_tellAll_74 : decode b_Teller_tellAll 74 = .ok (.invokevirtual 62, 3) := by decide +kernel
theorem d_Teller_tellAll_77 : decode b_Teller_tellAll 77 = .ok (.aload_n 0, 1) := by decide +kernel
theorem d_Teller_tellAll_78 : decode b_Teller_tellAll 78 = .ok (.getfield 15, 3) := by decide +kernel
theorem d_Teller_tellAll_81 : decode b_Teller_tellAll 81 = .ok (.getfield 65, 3) := by decide +kernel
theorem d_Teller_tellAll_84 : decode b_Teller_tellAll 84 = .ok (.ireturn, 1) := by decide +kernel
theorem d_Teller_tellInstances_0 : decode b_Teller_tellInstances 0 = .ok (.aload_n 1, 1) := by decide +kernel
theorem d_Teller_tellInstances_1 : decode b_Teller_tellInstances 1 = .ok (.getfield 48, 3) := by decide +kernel
theorem d_Teller_tellInstances_4 : decode b_Teller_tellInstances 4 = .ok (.iconst 2, 1) := by decide +kernel
theorem d_Teller_tellInstances_5 : decode b_Teller_tellInstances 5 = .ok (.iaload, 1) := by decide +kernel
theorem d_Teller_tellInstances_6 : decode b_Teller_tellInstances 6 = .ok (.istore_n 2, 1) := by decide +kernel
theorem d_Teller_tellInstances_7 : decode b_Teller_tellInstances 7 = .ok (.bipush (-17), 2) := by decide +kernel
theorem d_Teller_tellInstances_9 : decode b_Teller_tellInstances 9 = .ok (.istore_n 3, 1) := by decide +kernel
theorem d_Teller_tellInstances_10 : decode b_Teller_tellInstances 10 = .ok (.iconst 0, 1) := by decide +kernel
theorem d_Teller_tellInstances_11 : decode b_Teller_tellInstances 11 = .ok (.istore 4, 2) := by decide +kernel
theorem d_Teller_tellInstances_13 : decode b_Teller_tellInstances 13 = .ok (.iconst 0, 1) := by decide +kernel
theorem d_Teller_tellInstances_14 : decode b_Teller_tellInstances 14 = .ok (.istore 5, 2) := by decide +kernel
theorem d_Teller_tellInstances_16 : decode b_Teller_tellInstances 16 = .ok (.iconst 0, 1) := by decide +kernel
theorem d_Teller_tellInstances_17 : decode b_Teller_tellInstances 17 = .ok (.istore 6, 2) := by decide +kernel
theorem d_Teller_tellInstances_19 : decode b_Teller_tellInstances 19 = .ok (.iload 6, 2) := by decide +kernel
theorem d_Teller_tellInstances_21 : decode b_Teller_tellInstances 21 = .ok (.aload_n 1, 1) := by decide +kernel
theorem d_Teller_tellInstances_22 : decode b_Teller_tellInstances 22 = .ok (.getfield 36, 3) := by decide +kernel
theorem d_Teller_tellInstances_25 : decode b_Teller_tellInstances 25 = .ok (.if_icmp .ge 182, 3) := by decide +kernel
theorem d_Teller_tellInstances_28 : decode b_Teller_tellInstances 28 = .ok (.aload_n 1, 1) := by decide +kernel
theorem d_Teller_tellInstances_29 : decode b_Teller_tellInstances 29 = .ok (.getfield 66, 3) := by decide +kernel
theorem d_Teller_tellInstances_32 : decode b_Teller_tellInstances 32 = .ok (.iload 6, 2) := by decide +kernel
theorem d_Teller_tellInstances_34 : decode b_Teller_tellInstances 34 = .ok (.iaload, 1) := by decide +kernel
theorem d_Teller_tellInstances_35 : decode b_Teller_tellInstances 35 = .ok (.istore 7, 2) := by decide +kernel
theorem d_Teller_tellInstances_37 : decode b_Teller_tellInstances 37 = .ok (.aload_n 1, 1) := by decide +kernel
theorem d_Teller_tellInstances_38 : decode b_Teller_tellInstances 38 = .ok (.getfield 69, 3) := by decide +kernel
theorem d_Teller_tellInstances_41 : decode b_Teller_tellInstances 41 = .ok (.iload 7, 2) := by decide +kernel
theorem d_Teller_tellInstances_43 : decode b_Teller_tellInstances 43 = .ok (.iaload, 1) := by decide +kernel
theorem d_Teller_tellInstances_44 : decode b_Teller_tellInstances 44 = .ok (.istore 8, 2) := by decide +kernel
theorem d_Teller_tellInstances_46 : decode b_Teller_tellInstances 46 = .ok (.aload_n 1, 1) := by decide +kernel
theorem d_Teller_tellInstances_47 : decode b_Teller_tellInstances 47 = .ok (.iload 7, 2) := by decide +kernel
theorem d_Teller_tellInstances_49 : decode b_Teller_tellInstances 49 = .ok (.invokevirtual 72, 3) := by decide +kernel
theorem d_Teller_tellInstances_52 : decode b_Teller_tellInstances 52 = .ok (.istore 9, 2) := by decide +kernel
theorem d_Teller_tellInstances_54 : decode b_Teller_tellInstances 54 = .ok (.aload_n 1, 1) := by decide +kernel
theorem d_Teller_tellInstances_55 : decode b_Teller_tellInstances 55 = .ok (.iload 7, 2) := by decide +kernel
theorem d_Teller_tellInstances_57 : decode b_Teller_tellInstances 57 = .ok (.invokevirtual 76, 3) := by decide +kernel
theorem d_Teller_tellInstances_60 : decode b_Teller_tellInstances 60 = .ok (.istore 10, 2) := by decide +kernel
theorem d_Teller_tellInstances_62 : decode b_Teller_tellInstances 62 = .ok (.iload 10, 2) := by decide +kernel
theorem d_Teller_tellInstances_64 : decode b_Teller_tellInstances 64 = .ok (.iload_n 2, 1) := by decide +kernel
theorem d_Teller_tellInstances_65 : decode b_Teller_tellInstances 65 = .ok (.ishr, 1) := by decide +kernel
theorem d_Teller_tellInstances_66 : decode b_Teller_tellInstances 66 = .ok (.istore 11, 2) := by decide +kernel
theorem d_Teller_tellInstances_68 : decode b_Teller_tellInstances 68 = .ok (.iload 11, 2) := by decide +kernel
theorem d_Teller_tellInstances_70 : decode b_Teller_tellInstances 70 = .ok (.iload_n 3, 1) := by decide +kernel
theorem d_Teller_tellInstances_71 : decode b_Teller_tellInstances 71 = .ok (.if_icmp .ne 27, 3) := by decide +kernel
theorem d_Teller_tellInstances_74 : decode b_Teller_tellInstances 74 = .ok (.aload_n 0, 1) := by decide +kernel
theorem d_Teller_tellInstances_75 : decode b_Teller_tellInstances 75 = .ok (.getfield 15, 3) := by decide +kernel
theorem d_Teller_tellInstances_78 : decode b_Teller_tellInstances 78 = .ok (.iconst 1, 1) := by decide +kernel
theorem d_Teller_tellInstances_79 : decode b_Teller_tellInstances 79 = .ok (.iconst 1, 1) := by decide +kernel
theorem d_Teller_tellInstances_80 : decode b_Teller_tellInstances 80 = .ok (.invokevirtual 54, 3) := by decide +kernel
theorem d_Teller_tellInstances_83 : decode b_Teller_tellInstances 83 = .ok (.aload_n 0, 1) := by decide +kernel
theorem d_Teller_tellInstances_84 : decode b_Teller_tellInstances 84 = .ok (.getfield 15, 3) := by decide +kernel
theorem d_Teller_tellInstances_87 : decode b_Teller_tellInstances 87 = .ok (.iload 9, 2) := by decide +kernel
theorem d_Teller_tellInstances_89 : decode b_Teller_tellInstances 89 = .ok (.iload 5, 2) := by decide +kernel
theorem d_Teller_tellInstances_91 : decode b_Teller_tellInstances 91 = .ok (.isub, 1) := by decide +kernel
theorem d_Teller_tellInstances_92 : decode b_Teller_tellInstances 92 = .ok (.invokevirtual 79, 3) := by decide +kernel
theorem d_Teller_tellInstances_95 : decode b_Teller_tellInstances 95 = .ok (.goto 49, 3) := by decide +kernel
theorem d_Teller_tellInstances_98 : decode b_Teller_tellInstances 98 = .ok (.iload 6, 2) := by decide +kernel
theorem d_Teller_tellInstances_100 : decode b_Teller_tellInstances 100 = .ok (.ifCond .le 12, 3) := by decide +kernel
theorem d_Teller_tellInstances_103 : decode b_Teller_tellInstances 103 = .ok (.aload_n 0, 1) := by decide +kernel
theorem d_Teller_tellInstances_104 : decode b_Teller_tellInstances 104 = .ok (.getfield 15, 3) := by decide +kernel
theorem d_Teller_tellInstances_107 : decode b_Teller_tellInstances 107 = .ok (.iconst 0, 1) := by decide +kernel
theorem d_Teller_tellInstances_108 : decode b_Teller_tellInstances 108 = .ok (.iconst 1, 1) := by decide +kernel
theorem d_Teller_tellInstances_109 : decode b_Teller_tellInstances 109 = .ok (.invokevirtual 54, 3) := by decide +kernel
theorem d_Teller_tellInstances_112 : decode b_Teller_tellInstances 112 = .ok (.aload_n 0, 1) := by decide +kernel
theorem d_Teller_tellInstances_113 : decode b_Teller_tellInstances 113 = .ok (.getfield 15, 3) := by decide +kernel
theorem d_Teller_tellInstances_116 : decode b_Teller_tellInstances 116 = .ok (.iload 11, 2) := by decide +kernel
theorem d_Teller_tellInstances_118 : decode b_Teller_tellInstances 118 = .ok (.iload_n 3, 1) := by decide +kernel
theorem d_Teller_tellInstances_119 : decode b_Teller_tellInstances 119 = .ok (.isub, 1) := by decide +kernel
theorem d_Teller_tellInstances_120 : decode b_Teller_tellInstances 120 = .ok (.iconst 1, 1) := by decide +kernel
theorem d_Teller_tellInstances_121 : decode b_Teller_tellInstances 121 = .ok (.isub, 1) := by decide +kernel
theorem d_Teller_tellInstances_122 : decode b_Teller_tellInstances 122 = .ok (.invokevirtual 40, 3) := by decide +kernel
theorem d_Teller_tellInstances_125 : decode b_Teller_tellInstances 125 = .ok (.aload_n 0, 1) := by decide +kernel
theorem d_Teller_tellInstances_126 : decode b_Teller_tellInstances 126 = .ok (.getfield 15, 3) := by decide +kernel
theorem d_Teller_tellInstances_129 : decode b_Teller_tellInstances 129 = .ok (.iload 9, 2) := by decide +kernel
theorem d_Teller_tellInstances_131 : decode b_Teller_tellInstances 131 = .ok (.iload 4, 2) := by decide +kernel
theorem d_Teller_tellInstances_133 : decode b_Teller_tellInstances 133 = .ok (.isub, 1) := by decide +kernel
theorem d_Teller_tellInstances_134 : decode b_Teller_tellInstances 134 = .ok (.invokevirtual 79, 3) := by decide +kernel
theorem d_Teller_tellInstances_137 : decode b_Teller_tellInstances 137 = .ok (.iload 11, 2) := by decide +kernel
theorem d_Teller_tellInstances_139 : decode b_Teller_tellInstances 139 = .ok (.istore_n 3, 1) := by decide +kernel
theorem d_Teller_tellInstances_140 : decode b_Teller_tellInstances 140 = .ok (.iload 9, 2) := by decide +kernel
theorem d_Teller_tellInstances_142 : decode b_Teller_tellInstances 142 = .ok (.istore 4, 2) := by decide +kernel
theorem d_Teller_tellInstances_144 : decode b_Teller_tellInstances 144 = .ok (.aload_n 0, 1) := by decide +kernel
theorem d_Teller_tellInstances_145 : decode b_Teller_tellInstances 145 = .ok (.getfield 15, 3) := by decide +kernel
theorem d_Teller_tellInstances_148 : decode b_Teller_tellInstances 148 = .ok (.iload 10, 2) := by decide +kernel
theorem d_Teller_tellInstances_150 : decode b_Teller_tellInstances 150 = .ok (.iload_n 3, 1) := by decide +kernel
theorem d_Teller_tellInstances_151 : decode b_Teller_tellInstances 151 = .ok (.iload_n 2, 1) := by decide +kernel
theorem d_Teller_tellInstances_152 : decode b_Teller_tellInstances 152 = .ok (.ishl, 1) := by decide +kernel
theorem d_Teller_tellInstances_153 : decode b_Teller_tellInstances 153 = .ok (.isub, 1) := by decide +kernel
theorem d_Teller_tellInstances_154 : decode b_Teller_tellInstances 154 = .ok (.iload_n 2, 1) := by decide +kernel
theorem d_Teller_tellInstances_155 : decode b_Teller_tellInstances 155 = .ok (.invokevirtual 54, 3) := by decide +kernel
theorem d_Teller_tellInstances_158 : decode b_Teller_tellInstances 158 = .ok (.aload_n 0, 1) := by decide +kernel
theorem d_Teller_tellInstances_159 : decode b_Teller_tellInstances 159 = .ok (.getfield 9, 3) := by decide +kernel
theorem d_Teller_tellInstances_162 : decode b_Teller_tellInstances 162 = .ok (.iload 8, 2) := by decide +kernel
theorem d_Teller_tellInstances_164 : decode b_Teller_tellInstances 164 = .ok (.aload_n 0, 1) := by decide +kernel
theorem d_Teller_tellInstances_165 : decode b_Teller_tellInstances 165 = .ok (.getfield 15, 3) := by decide +kernel
theorem d_Teller_tellInstances_168 : decode b_Teller_tellInstances 168 = .ok (.invokeinterface 82 3, 5) := by decide +kernel
theorem d_Teller_tellInstances_173 : decode b_Teller_tellInstances 173 = .ok (.aload_n 0, 1) := by decide +kernel
theorem d_Teller_tellInstances_174 : decode b_Teller_tellInstances 174 = .ok (.aload_n 1, 1) := by decide +kernel
theorem d_Teller_tellInstances_175 : decode b_Teller_tellInstances 175 = .ok (.getfield 86, 3) := by decide +kernel
theorem d_Teller_tellInstances_178 : decode b_Teller_tellInstances 178 = .ok (.iload 7, 2) := by decide +kernel
theorem d_Teller_tellInstances_180 : decode b_Teller_tellInstances 180 = .ok (.laload, 1) := by decide +kernel
theorem d_Teller_tellInstances_181 : decode b_Teller_tellInstances 181 = .ok (.aload_n 1, 1) := by decide +kernel
theorem d_Teller_tellInstances_182 : decode b_Teller_tellInstances 182 = .ok (.getfield 90, 3) := by decide +kernel
theorem d_Teller_tellInstances_185 : decode b_Teller_tellInstances 185 = .ok (.iload 8, 2) := by decide +kernel
theorem d_Teller_tellInstances_187 : decode b_Teller_tellInstances 187 = .ok (.invokevirtual 94, 3) := by decide +kernel
theorem d_Teller_tellInstances_190 : decode b_Teller_tellInstances 190 = .ok (.invokevirtual 99, 3) := by decide +kernel
theorem d_Teller_tellInstances_193 : decode b_Teller_tellInstances 193 = .ok (.aload_n 1, 1) := by decide +kernel
theorem d_Teller_tellInstances_194 : decode b_Teller_tellInstances 194 = .ok (.iload 7, 2) := by decide +kernel
theorem d_Teller_tellInstances_196 : decode b_Teller_tellInstances 196 = .ok (.invokevirtual 103, 3) := by decide +kernel
theorem d_Teller_tellInstances_199 : decode b_Teller_tellInstances 199 = .ok (.istore 5, 2) := by decide +kernel
theorem d_Teller_tellInstances_201 : decode b_Teller_tellInstances 201 = .ok (.iinc 6 1, 3) := by decide +kernel
theorem d_Teller_tellInstances_204 : decode b_Teller_tellInstances 204 = .ok (.goto (-185), 3) := by decide +kernel
theorem d_Teller_tellInstances_207 : decode b_Teller_tellInstances 207 = .ok (.aload_n 1, 1) := by decide +kernel
theorem d_Teller_tellInstances_208 : decode b_Teller_tellInstances 208 = .ok (.getfield 36, 3) := by decide +kernel
theorem d_Teller_tellInstances_211 : decode b_Teller_tellInstances 211 = .ok (.ifCond .le 12, 3) := by decide +kernel
theorem d_Teller_tellInstances_214 : decode b_Teller_tellInstances 214 = .ok (.aload_n 0, 1) := by decide +kernel
theorem d_Teller_tellInstances_215 : decode b_Teller_tellInstances 215 = .ok (.getfield 15, 3) := by decide +kernel
theorem d_Teller_tellInstances_218 : decode b_Teller_tellInstances 218 = .ok (.iconst 0, 1) := by decide +kernel
theorem d_Teller_tellInstances_219 : decode b_Teller_tellInstances 219 = .ok (.iconst 1, 1) := by decide +kernel
theorem d_Teller_tellInstances_220 : decode b_Teller_tellInstances 220 = .ok (.invokevirtual 54, 3) := by decide +kernel
theorem d_Teller_tellInstances_223 : decode b_Teller_tellInstances 223 = .ok (.return_, 1) := by decide +kernel
theorem d_Teller_tellDiffers_0 : decode b_Teller_tellDiffers 0 = .ok (.aload_n 0, 1) := by decide +kernel
theorem d_Teller_tellDiffers_1 : decode b_Teller_tellDiffers 1 = .ok (.getfield 15, 3) := by decide +kernel
theorem d_Teller_tellDiffers_4 : decode b_Teller_tellDiffers 4 = .ok (.lload_n 1, 1) := by decide +kernel
theorem d_Teller_tellDiffers_5 : decode b_Teller_tellDiffers 5 = .ok (.lconst 0, 1) := by decide +kernel
theorem d_Teller_tellDiffers_6 : decode b_Teller_tellDiffers 6 = .ok (.lcmp, 1) := by decide +kernel
theorem d_Teller_tellDiffers_7 : decode b_Teller_tellDiffers 7 = .ok (.ifCond .ne 7, 3) := by decide +kernel
theorem d_Teller_tellDiffers_10 : decode b_Teller_tellDiffers 10 = .ok (.iconst 0, 1) := by decide +kernel
theorem d_Teller_tellDiffers_11 : decode b_Teller_tellDiffers 11 = .ok (.goto 4, 3) := by decide +kernel
theorem d_Teller_tellDiffers_14 : decode b_Teller_tellDiffers 14 = .ok (.iconst 1, 1) := by decide +kernel
theorem d_Teller_tellDiffers_15 : decode b_Teller_tellDiffers 15 = .ok (.iconst 1, 1) := by decide +kernel
theorem d_Teller_tellDiffers_16 : decode b_Teller_tellDiffers 16 = .ok (.invokevirtual 54, 3) := by decide +kernel
theorem d_Teller_tellDiffers_19 : decode b_Teller_tellDiffers 19 = .ok (.lload_n 1, 1) := by decide +kernel
theorem d_Teller_tellDiffers_20 : decode b_Teller_tellDiffers 20 = .ok (.lstore 4, 2) := by decide +kernel
theorem d_Teller_tellDiffers_22 : decode b_Teller_tellDiffers 22 = .ok (.lload_n 1, 1) := by decide +kernel
theorem d_Teller_tellDiffers_23 : decode b_Teller_tellDiffers 23 = .ok (.lconst 0, 1) := by decide +kernel
theorem d_Teller_tellDiffers_24 : decode b_Teller_tellDiffers 24 = .ok (.lcmp, 1) := by decide +kernel
theorem d_Teller_tellDiffers_25 : decode b_Teller_tellDiffers 25 = .ok (.ifCond .ne 7, 3) := by decide +kernel
theorem d_Teller_tellDiffers_28 : decode b_Teller_tellDiffers 28 = .ok (.iload_n 3, 1) := by decide +kernel
theorem d_Teller_tellDiffers_29 : decode b_Teller_tellDiffers 29 = .ok (.goto 4, 3) := by decide +kernel
theorem d_Teller_tellDiffers_32 : decode b_Teller_tellDiffers 32 = .ok (.iconst 0, 1) := by decide +kernel
theorem d_Teller_tellDiffers_33 : decode b_Teller_tellDiffers 33 = .ok (.istore 6, 2) := by decide +kernel
theorem d_Teller_tellDiffers_35 : decode b_Teller_tellDiffers 35 = .ok (.iconst 0, 1) := by decide +kernel
theorem d_Teller_tellDiffers_36 : decode b_Teller_tellDiffers 36 = .ok (.istore 7, 2) := by decide +kernel
theorem d_Teller_tellDiffers_38 : decode b_Teller_tellDiffers 38 = .ok (.iload 7, 2) := by decide +kernel
theorem d_Teller_tellDiffers_40 : decode b_Teller_tellDiffers 40 = .ok (.iload_n 3, 1) := by decide +kernel
theorem d_Teller_tellDiffers_41 : decode b_Teller_tellDiffers 41 = .ok (.if_icmp .gt 56, 3) := by decide +kernel
theorem d_Teller_tellDiffers_44 : decode b_Teller_tellDiffers 44 = .ok (.iload 6, 2) := by decide +kernel
theorem d_Teller_tellDiffers_46 : decode b_Teller_tellDiffers 46 = .ok (.iload_n 3, 1) := by decide +kernel
theorem d_Teller_tellDiffers_47 : decode b_Teller_tellDiffers 47 = .ok (.if_icmp .ge 50, 3) := by decide +kernel
theorem d_Teller_tellDiffers_50 : decode b_Teller_tellDiffers 50 = .ok (.lload 4, 2) := by decide +kernel
theorem d_Teller_tellDiffers_52 : decode b_Teller_tellDiffers 52 = .ok (.iload 6, 2) := by decide +kernel
theorem d_Teller_tellDiffers_54 : decode b_Teller_tellDiffers 54 = .ok (.lushr, 1) := by decide +kernel
theorem d_Teller_tellDiffers_55 : decode b_Teller_tellDiffers 55 = .ok (.invokestatic 106, 3) := by decide +kernel
theorem d_Teller_tellDiffers_58 : decode b_Teller_tellDiffers 58 = .ok (.iload_n 3, 1) := by decide +kernel
theorem d_Teller_tellDiffers_59 : decode b_Teller_tellDiffers 59 = .ok (.iload 6, 2) := by decide +kernel
theorem d_Teller_tellDiffers_61 : decode b_Teller_tellDiffers 61 = .ok (.isub, 1) := by decide +kernel
theorem d_Teller_tellDiffers_62 : decode b_Teller_tellDiffers 62 = .ok (.invokestatic 110, 3) := by decide +kernel
theorem d_Teller_tellDiffers_65 : decode b_Teller_tellDiffers 65 = .ok (.istore 8, 2) := by decide +kernel
theorem d_Teller_tellDiffers_67 : decode b_Teller_tellDiffers 67 = .ok (.aload_n 0, 1) := by decide +kernel
theorem d_Teller_tellDiffers_68 : decode b_Teller_tellDiffers 68 = .ok (.getfield 15, 3) := by decide +kernel
theorem d_Teller_tellDiffers_71 : decode b_Teller_tellDiffers 71 = .ok (.iload 8, 2) := by decide +kernel
theorem d_Teller_tellDiffers_73 : decode b_Teller_tellDiffers 73 = .ok (.invokevirtual 40, 3) := by decide +kernel
theorem d_Teller_tellDiffers_76 : decode b_Teller_tellDiffers 76 = .ok (.iload 6, 2) := by decide +kernel
theorem d_Teller_tellDiffers_78 : decode b_Teller_tellDiffers 78 = .ok (.iload 8, 2) := by decide +kernel
theorem d_Teller_tellDiffers_80 : decode b_Teller_tellDiffers 80 = .ok (.iadd, 1) := by decide +kernel
theorem d_Teller_tellDiffers_81 : decode b_Teller_tellDiffers 81 = .ok (.istore 6, 2) := by decide +kernel
theorem d_Teller_tellDiffers_83 : decode b_Teller_tellDiffers 83 = .ok (.lload 4, 2) := by decide +kernel
theorem d_Teller_tellDiffers_85 : decode b_Teller_tellDiffers 85 = .ok (.ldc2_w 116, 3) := by decide +kernel
theorem d_Teller_tellDiffers_88 : decode b_Teller_tellDiffers 88 = .ok (.lxor, 1) := by decide +kernel
theorem d_Teller_tellDiffers_89 : decode b_Teller_tellDiffers 89 = .ok (.lstore 4, 2) := by decide +kernel
theorem d_Teller_tellDiffers_91 : decode b_Teller_tellDiffers 91 = .ok (.iinc 7 1, 3) := by decide +kernel
theorem d_Teller_tellDiffers_94 : decode b_Teller_tellDiffers 94 = .ok (.goto (-56), 3) := by decide +kernel
theorem d_Teller_tellDiffers_97 : decode b_Teller_tellDiffers 97 = .ok (.return_, 1) := by decide +kernel
theorem d_Teller_zerosBelowLowestOne_0 : decode b_Teller_zerosBelowLowestOne 0 = .ok (.lload_n 0, 1) := by decide +kernel
theorem d_Teller_zerosBelowLowestOne_1 : decode b_Teller_zerosBelowLowestOne 1 = .ok (.lload_n 0, 1) := by decide +kernel
theorem d_Teller_zerosBelowLowestOne_2 : decode b_Teller_zerosBelowLowestOne 2 = .ok (.lneg, 1) := by decide +kernel
theorem d_Teller_zerosBelowLowestOne_3 : decode b_Teller_zerosBelowLowestOne 3 = .ok (.land, 1) := by decide +kernel
theorem d_Teller_zerosBelowLowestOne_4 : decode b_Teller_zerosBelowLowestOne 4 = .ok (.lconst 1, 1) := by decide +kernel
theorem d_Teller_zerosBelowLowestOne_5 : decode b_Teller_zerosBelowLowestOne 5 = .ok (.lsub, 1) := by decide +kernel
theorem d_Teller_zerosBelowLowestOne_6 : decode b_Teller_zerosBelowLowestOne 6 = .ok (.invokestatic 118, 3) := by decide +kernel
theorem d_Teller_zerosBelowLowestOne_9 : decode b_Teller_zerosBelowLowestOne 9 = .ok (.ireturn, 1) := by decide +kernel
theorem d_Long_bitCount_0 : decode b_Long_bitCount 0 = .ok (.lload_n 0, 1) := by decide +kernel
theorem d_Long_bitCount_1 : decode b_Long_bitCount 1 = .ok (.lload_n 0, 1) := by decide +kernel
theorem d_Long_bitCount_2 : decode b_Long_bitCount 2 = .ok (.iconst 1, 1) := by decide +kernel
theorem d_Long_bitCount_3 : decode b_Long_bitCount 3 = .ok (.lushr, 1) := by decide +kernel
theorem d_Long_bitCount_4 : decode b_Long_bitCount 4 = .ok (.ldc2_w 314, 3) := by decide +kernel
theorem d_Long_bitCount_7 : decode b_Long_bitCount 7 = .ok (.land, 1) := by decide +kernel
theorem d_Long_bitCount_8 : decode b_Long_bitCount 8 = .ok (.lsub, 1) := by decide +kernel
theorem d_Long_bitCount_9 : decode b_Long_bitCount 9 = .ok (.lstore_n 0, 1) := by decide +kernel
theorem d_Long_bitCount_10 : decode b_Long_bitCount 10 = .ok (.lload_n 0, 1) := by decide +kernel
theorem d_Long_bitCount_11 : decode b_Long_bitCount 11 = .ok (.ldc2_w 316, 3) := by decide +kernel
theorem d_Long_bitCount_14 : decode b_Long_bitCount 14 = .ok (.land, 1) := by decide +kernel
theorem d_Long_bitCount_15 : decode b_Long_bitCount 15 = .ok (.lload_n 0, 1) := by decide +kernel
theorem d_Long_bitCount_16 : decode b_Long_bitCount 16 = .ok (.iconst 2, 1) := by decide +kernel
theorem d_Long_bitCount_17 : decode b_Long_bitCount 17 = .ok (.lushr, 1) := by decide +kernel
theorem d_Long_bitCount_18 : decode b_Long_bitCount 18 = .ok (.ldc2_w 316, 3) := by decide +kernel
theorem d_Long_bitCount_21 : decode b_Long_bitCount 21 = .ok (.land, 1) := by decide +kernel
theorem d_Long_bitCount_22 : decode b_Long_bitCount 22 = .ok (.ladd, 1) := by decide +kernel
theorem d_Long_bitCount_23 : decode b_Long_bitCount 23 = .ok (.lstore_n 0, 1) := by decide +kernel
theorem d_Long_bitCount_24 : decode b_Long_bitCount 24 = .ok (.lload_n 0, 1) := by decide +kernel
theorem d_Long_bitCount_25 : decode b_Long_bitCount 25 = .ok (.lload_n 0, 1) := by decide +kernel
theorem d_Long_bitCount_26 : decode b_Long_bitCount 26 = .ok (.iconst 4, 1) := by decide +kernel
theorem d_Long_bitCount_27 : decode b_Long_bitCount 27 = .ok (.lushr, 1) := by decide +kernel
theorem d_Long_bitCount_28 : decode b_Long_bitCount 28 = .ok (.ladd, 1) := by decide +kernel
theorem d_Long_bitCount_29 : decode b_Long_bitCount 29 = .ok (.ldc2_w 318, 3) := by decide +kernel
theorem d_Long_bitCount_32 : decode b_Long_bitCount 32 = .ok (.land, 1) := by decide +kernel
theorem d_Long_bitCount_33 : decode b_Long_bitCount 33 = .ok (.lstore_n 0, 1) := by decide +kernel
theorem d_Long_bitCount_34 : decode b_Long_bitCount 34 = .ok (.lload_n 0, 1) := by decide +kernel
theorem d_Long_bitCount_35 : decode b_Long_bitCount 35 = .ok (.lload_n 0, 1) := by decide +kernel
theorem d_Long_bitCount_36 : decode b_Long_bitCount 36 = .ok (.bipush 8, 2) := by decide +kernel
theorem d_Long_bitCount_38 : decode b_Long_bitCount 38 = .ok (.lushr, 1) := by decide +kernel
theorem d_Long_bitCount_39 : decode b_Long_bitCount 39 = .ok (.ladd, 1) := by decide +kernel
theorem d_Long_bitCount_40 : decode b_Long_bitCount 40 = .ok (.lstore_n 0, 1) := by decide +kernel
theorem d_Long_bitCount_41 : decode b_Long_bitCount 41 = .ok (.lload_n 0, 1) := by decide +kernel
theorem d_Long_bitCount_42 : decode b_Long_bitCount 42 = .ok (.lload_n 0, 1) := by decide +kernel
theorem d_Long_bitCount_43 : decode b_Long_bitCount 43 = .ok (.bipush 16, 2) := by decide +kernel
theorem d_Long_bitCount_45 : decode b_Long_bitCount 45 = .ok (.lushr, 1) := by decide +kernel
theorem d_Long_bitCount_46 : decode b_Long_bitCount 46 = .ok (.ladd, 1) := by decide +kernel
theorem d_Long_bitCount_47 : decode b_Long_bitCount 47 = .ok (.lstore_n 0, 1) := by decide +kernel
theorem d_Long_bitCount_48 : decode b_Long_bitCount 48 = .ok (.lload_n 0, 1) := by decide +kernel
theorem d_Long_bitCount_49 : decode b_Long_bitCount 49 = .ok (.lload_n 0, 1) := by decide +kernel
theorem d_Long_bitCount_50 : decode b_Long_bitCount 50 = .ok (.bipush 32, 2) := by decide +kernel
theorem d_Long_bitCount_52 : decode b_Long_bitCount 52 = .ok (.lushr, 1) := by decide +kernel
theorem d_Long_bitCount_53 : decode b_Long_bitCount 53 = .ok (.ladd, 1) := by decide +kernel
theorem d_Long_bitCount_54 : decode b_Long_bitCount 54 = .ok (.lstore_n 0, 1) := by decide +kernel
theorem d_Long_bitCount_55 : decode b_Long_bitCount 55 = .ok (.lload_n 0, 1) := by decide +kernel
theorem d_Long_bitCount_56 : decode b_Long_bitCount 56 = .ok (.l2i, 1) := by decide +kernel
theorem d_Long_bitCount_57 : decode b_Long_bitCount 57 = .ok (.bipush 127, 2) := by decide +kernel
theorem d_Long_bitCount_59 : decode b_Long_bitCount 59 = .ok (.iand, 1) := by decide +kernel
theorem d_Long_bitCount_60 : decode b_Long_bitCount 60 = .ok (.ireturn, 1) := by decide +kernel
