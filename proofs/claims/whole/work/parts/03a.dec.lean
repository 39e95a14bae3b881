theorem dX0_init_0 : decode cX0_init 0 = .ok (.aload_n 0, 1) := by decide +kernel
theorem dX0_init_1 : decode cX0_init 1 = .ok (.invokespecial 3, 3) := by decide +kernel
theorem dX0_init_4 : decode cX0_init 4 = .ok (.aload_n 0, 1) := by decide +kernel
theorem dX0_init_5 : decode cX0_init 5 = .ok (.bipush 49, 2) := by decide +kernel
theorem dX0_init_7 : decode cX0_init 7 = .ok (.newarray .long, 2) := by decide +kernel
theorem dX0_init_9 : decode cX0_init 9 = .ok (.putfield 11, 3) := by decide +kernel
theorem dX0_init_12 : decode cX0_init 12 = .ok (.aload_n 0, 1) := by decide +kernel
theorem dX0_init_13 : decode cX0_init 13 = .ok (.new 15, 3) := by decide +kernel
theorem dX0_init_16 : decode cX0_init 16 = .ok (.dup, 1) := by decide +kernel
theorem dX0_init_17 : decode cX0_init 17 = .ok (.invokespecial 17, 3) := by decide +kernel
theorem dX0_init_20 : decode cX0_init 20 = .ok (.putfield 18, 3) := by decide +kernel
theorem dX0_init_23 : decode cX0_init 23 = .ok (.aload_n 0, 1) := by decide +kernel
theorem dX0_init_24 : decode cX0_init 24 = .ok (.new 15, 3) := by decide +kernel
theorem dX0_init_27 : decode cX0_init 27 = .ok (.dup, 1) := by decide +kernel
theorem dX0_init_28 : decode cX0_init 28 = .ok (.invokespecial 17, 3) := by decide +kernel
theorem dX0_init_31 : decode cX0_init 31 = .ok (.putfield 22, 3) := by decide +kernel
theorem dX0_init_34 : decode cX0_init 34 = .ok (.aload_n 0, 1) := by decide +kernel
theorem dX0_init_35 : decode cX0_init 35 = .ok (.new 15, 3) := by decide +kernel
theorem dX0_init_38 : decode cX0_init 38 = .ok (.dup, 1) := by decide +kernel
theorem dX0_init_39 : decode cX0_init 39 = .ok (.invokespecial 17, 3) := by decide +kernel
theorem dX0_init_42 : decode cX0_init 42 = .ok (.putfield 25, 3) := by decide +kernel
theorem dX0_init_45 : decode cX0_init 45 = .ok (.aload_n 0, 1) := by decide +kernel
theorem dX0_init_46 : decode cX0_init 46 = .ok (.new 15, 3) := by decide +kernel
theorem dX0_init_49 : decode cX0_init 49 = .ok (.dup, 1) := by decide +kernel
theorem dX0_init_50 : decode cX0_init 50 = .ok (.invokespecial 17, 3) := by decide +kernel
theorem dX0_init_53 : decode cX0_init 53 = .ok (.putfield 28, 3) := by decide +kernel
theorem dX0_init_56 : decode cX0_init 56 = .ok (.aload_n 0, 1) := by decide +kernel
theorem dX0_init_57 : decode cX0_init 57 = .ok (.new 15, 3) := by decide +kernel
theorem dX0_init_60 : decode cX0_init 60 = .ok (.dup, 1) := by decide +kernel
theorem dX0_init_61 : decode cX0_init 61 = .ok (.invokespecial 17, 3) := by decide +kernel
theorem dX0_init_64 : decode cX0_init 64 = .ok (.putfield 31, 3) := by decide +kernel
theorem dX0_init_67 : decode cX0_init 67 = .ok (.return_, 1) := by decide +kernel
theorem dX0_addModels_0 : decode cX0_addModels 0 = .ok (.iconst 0, 1) := by decide +kernel
theorem dX0_addModels_1 : decode cX0_addModels 1 = .ok (.istore 4, 2) := by decide +kernel
theorem dX0_addModels_3 : decode cX0_addModels 3 = .ok (.iload 4, 2) := by decide +kernel
theorem dX0_addModels_5 : decode cX0_addModels 5 = .ok (.bipush 10, 2) := by decide +kernel
theorem dX0_addModels_7 : decode cX0_addModels 7 = .ok (.if_icmp .ge 31, 3) := by decide +kernel
theorem dX0_addModels_10 : decode cX0_addModels 10 = .ok (.aload_n 1, 1) := by decide +kernel
theorem dX0_addModels_11 : decode cX0_addModels 11 = .ok (.getfield 34, 3) := by decide +kernel
theorem dX0_addModels_14 : decode cX0_addModels 14 = .ok (.iload 4, 2) := by decide +kernel
theorem dX0_addModels_16 : decode cX0_addModels 16 = .ok (.aload_n 2, 1) := by decide +kernel
theorem dX0_addModels_17 : decode cX0_addModels 17 = .ok (.getfield 34, 3) := by decide +kernel
theorem dX0_addModels_20 : decode cX0_addModels 20 = .ok (.iload 4, 2) := by decide +kernel
theorem dX0_addModels_22 : decode cX0_addModels 22 = .ok (.laload, 1) := by decide +kernel
theorem dX0_addModels_23 : decode cX0_addModels 23 = .ok (.aload_n 3, 1) := by decide +kernel
theorem dX0_addModels_24 : decode cX0_addModels 24 = .ok (.getfield 34, 3) := by decide +kernel
theorem dX0_addModels_27 : decode cX0_addModels 27 = .ok (.iload 4, 2) := by decide +kernel
theorem dX0_addModels_29 : decode cX0_addModels 29 = .ok (.laload, 1) := by decide +kernel
theorem dX0_addModels_30 : decode cX0_addModels 30 = .ok (.ladd, 1) := by decide +kernel
theorem dX0_addModels_31 : decode cX0_addModels 31 = .ok (.lastore, 1) := by decide +kernel
theorem dX0_addModels_32 : decode cX0_addModels 32 = .ok (.iinc 4 1, 3) := by decide +kernel
theorem dX0_addModels_35 : decode cX0_addModels 35 = .ok (.goto (-32), 3) := by decide +kernel
theorem dX0_addModels_38 : decode cX0_addModels 38 = .ok (.aload_n 1, 1) := by decide +kernel
theorem dX0_addModels_39 : decode cX0_addModels 39 = .ok (.aload_n 2, 1) := by decide +kernel
theorem dX0_addModels_40 : decode cX0_addModels 40 = .ok (.getfield 37, 3) := by decide +kernel
theorem dX0_addModels_43 : decode cX0_addModels 43 = .ok (.aload_n 3, 1) := by decide +kernel
theorem dX0_addModels_44 : decode cX0_addModels 44 = .ok (.getfield 37, 3) := by decide +kernel
theorem dX0_addModels_47 : decode cX0_addModels 47 = .ok (.ladd, 1) := by decide +kernel
theorem dX0_addModels_48 : decode cX0_addModels 48 = .ok (.putfield 37, 3) := by decide +kernel
theorem dX0_addModels_51 : decode cX0_addModels 51 = .ok (.aload_n 1, 1) := by decide +kernel
theorem dX0_addModels_52 : decode cX0_addModels 52 = .ok (.aload_n 2, 1) := by decide +kernel
theorem dX0_addModels_53 : decode cX0_addModels 53 = .ok (.getfield 41, 3) := by decide +kernel
theorem dX0_addModels_56 : decode cX0_addModels 56 = .ok (.aload_n 3, 1) := by decide +kernel
theorem dX0_addModels_57 : decode cX0_addModels 57 = .ok (.getfield 41, 3) := by decide +kernel
theorem dX0_addModels_60 : decode cX0_addModels 60 = .ok (.ladd, 1) := by decide +kernel
theorem dX0_addModels_61 : decode cX0_addModels 61 = .ok (.putfield 41, 3) := by decide +kernel
theorem dX0_addModels_64 : decode cX0_addModels 64 = .ok (.aload_n 1, 1) := by decide +kernel
theorem dX0_addModels_65 : decode cX0_addModels 65 = .ok (.invokevirtual 44, 3) := by decide +kernel
theorem dX0_addModels_68 : decode cX0_addModels 68 = .ok (.ireturn, 1) := by decide +kernel
theorem dX0_subtractModels_0 : decode cX0_subtractModels 0 = .ok (.iconst 0, 1) := by decide +kernel
theorem dX0_subtractModels_1 : decode cX0_subtractModels 1 = .ok (.istore 4, 2) := by decide +kernel
theorem dX0_subtractModels_3 : decode cX0_subtractModels 3 = .ok (.iload 4, 2) := by decide +kernel
theorem dX0_subtractModels_5 : decode cX0_subtractModels 5 = .ok (.bipush 10, 2) := by decide +kernel
theorem dX0_subtractModels_7 : decode cX0_subtractModels 7 = .ok (.if_icmp .ge 31, 3) := by decide +kernel
theorem dX0_subtractModels_10 : decode cX0_subtractModels 10 = .ok (.aload_n 1, 1) := by decide +kernel
theorem dX0_subtractModels_11 : decode cX0_subtractModels 11 = .ok (.getfield 34, 3) := by decide +kernel
theorem dX0_subtractModels_14 : decode cX0_subtractModels 14 = .ok (.iload 4, 2) := by decide +kernel
theorem dX0_subtractModels_16 : decode cX0_subtractModels 16 = .ok (.aload_n 2, 1) := by decide +kernel
theorem dX0_subtractModels_17 : decode cX0_subtractModels 17 = .ok (.getfield 34, 3) := by decide +kernel
theorem dX0_subtractModels_20 : decode cX0_subtractModels 20 = .ok (.iload 4, 2) := by decide +kernel
theorem dX0_subtractModels_22 : decode cX0_subtractModels 22 = .ok (.laload, 1) := by decide +kernel
theorem dX0_subtractModels_23 : decode cX0_subtractModels 23 = .ok (.aload_n 3, 1) := by decide +kernel
theorem dX0_subtractModels_24 : decode cX0_subtractModels 24 = .ok (.getfield 34, 3) := by decide +kernel
theorem dX0_subtractModels_27 : decode cX0_subtractModels 27 = .ok (.iload 4, 2) := by decide +kernel
theorem dX0_subtractModels_29 : decode cX0_subtractModels 29 = .ok (.laload, 1) := by decide +kernel
theorem dX0_subtractModels_30 : decode cX0_subtractModels 30 = .ok (.lsub, 1) := by decide +kernel
theorem dX0_subtractModels_31 : decode cX0_subtractModels 31 = .ok (.lastore, 1) := by decide +kernel
theorem dX0_subtractModels_32 : decode cX0_subtractModels 32 = .ok (.iinc 4 1, 3) := by decide +kernel
theorem dX0_subtractModels_35 : decode cX0_subtractModels 35 = .ok (.goto (-32), 3) := by decide +kernel
theorem dX0_subtractModels_38 : decode cX0_subtractModels 38 = .ok (.aload_n 2, 1) := by decide +kernel
theorem dX0_subtractModels_39 : decode cX0_subtractModels 39 = .ok (.getfield 37, 3) := by decide +kernel
theorem dX0_subtractModels_42 : decode cX0_subtractModels 42 = .ok (.aload_n 3, 1) := by decide +kernel
theorem dX0_subtractModels_43 : decode cX0_subtractModels 43 = .ok (.getfield 41, 3) := by decide +kernel
theorem dX0_subtractModels_46 : decode cX0_subtractModels 46 = .ok (.lsub, 1) := by decide +kernel
theorem dX0_subtractModels_47 : decode cX0_subtractModels 47 = .ok (.lstore 4, 2) := by decide +kernel
theorem dX0_subtractModels_49 : decode cX0_subtractModels 49 = .ok (.aload_n 2, 1) := by decide +kernel
theorem dX0_subtractModels_50 : decode cX0_subtractModels 50 = .ok (.getfield 41, 3) := by decide +kernel
theorem dX0_subtractModels_53 : decode cX0_subtractModels 53 = .ok (.aload_n 3, 1) := by decide +kernel
theorem dX0_subtractModels_54 : decode cX0_subtractModels 54 = .ok (.getfield 37, 3) := by decide +kernel
theorem dX0_subtractModels_57 : decode cX0_subtractModels 57 = .ok (.lsub, 1) := by decide +kernel
theorem dX0_subtractModels_58 : decode cX0_subtractModels 58 = .ok (.lstore 6, 2) := by decide +kernel
theorem dX0_subtractModels_60 : decode cX0_subtractModels 60 = .ok (.aload_n 1, 1) := by decide +kernel
theorem dX0_subtractModels_61 : decode cX0_subtractModels 61 = .ok (.lload 4, 2) := by decide +kernel
theorem dX0_subtractModels_63 : decode cX0_subtractModels 63 = .ok (.putfield 37, 3) := by decide +kernel
theorem dX0_subtractModels_66 : decode cX0_subtractModels 66 = .ok (.aload_n 1, 1) := by decide +kernel
theorem dX0_subtractModels_67 : decode cX0_subtractModels 67 = .ok (.lload 6, 2) := by decide +kernel
theorem dX0_subtractModels_69 : decode cX0_subtractModels 69 = .ok (.putfield 41, 3) := by decide +kernel
theorem dX0_subtractModels_72 : decode cX0_subtractModels 72 = .ok (.aload_n 1, 1) := by decide +kernel
theorem dX0_subtractModels_73 : decode cX0_subtractModels 73 = .ok (.invokevirtual 44, 3) := by decide +kernel
theorem dX0_subtractModels_76 : decode cX0_subtractModels 76 = .ok (.ireturn, 1) := by decide +kernel
theorem dX0_multiplyModels_0 : decode cX0_multiplyModels 0 = .ok (.aload_n 0, 1) := by decide +kernel
theorem dX0_multiplyModels_1 : decode cX0_multiplyModels 1 = .ok (.aload_n 2, 1) := by decide +kernel
theorem dX0_multiplyModels_2 : decode cX0_multiplyModels 2 = .ok (.aload_n 3, 1) := by decide +kernel
theorem dX0_multiplyModels_3 : decode cX0_multiplyModels 3 = .ok (.invokevirtual 48, 3) := by decide +kernel
theorem dX0_multiplyModels_6 : decode cX0_multiplyModels 6 = .ok (.aload_n 0, 1) := by decide +kernel
theorem dX0_multiplyModels_7 : decode cX0_multiplyModels 7 = .ok (.lconst 0, 1) := by decide +kernel
theorem dX0_multiplyModels_8 : decode cX0_multiplyModels 8 = .ok (.putfield 52, 3) := by decide +kernel
theorem dX0_multiplyModels_11 : decode cX0_multiplyModels 11 = .ok (.aload_n 0, 1) := by decide +kernel
theorem dX0_multiplyModels_12 : decode cX0_multiplyModels 12 = .ok (.lconst 0, 1) := by decide +kernel
theorem dX0_multiplyModels_13 : decode cX0_multiplyModels 13 = .ok (.putfield 53, 3) := by decide +kernel
theorem dX0_multiplyModels_16 : decode cX0_multiplyModels 16 = .ok (.iconst 0, 1) := by decide +kernel
theorem dX0_multiplyModels_17 : decode cX0_multiplyModels 17 = .ok (.istore 4, 2) := by decide +kernel
theorem dX0_multiplyModels_19 : decode cX0_multiplyModels 19 = .ok (.iload 4, 2) := by decide +kernel
theorem dX0_multiplyModels_21 : decode cX0_multiplyModels 21 = .ok (.bipush 7, 2) := by decide +kernel
theorem dX0_multiplyModels_23 : decode cX0_multiplyModels 23 = .ok (.if_icmp .ge 91, 3) := by decide +kernel
theorem dX0_multiplyModels_26 : decode cX0_multiplyModels 26 = .ok (.iconst 0, 1) := by decide +kernel
theorem dX0_multiplyModels_27 : decode cX0_multiplyModels 27 = .ok (.iconst 4, 1) := by decide +kernel
theorem dX0_multiplyModels_28 : decode cX0_multiplyModels 28 = .ok (.iload 4, 2) := by decide +kernel
theorem dX0_multiplyModels_30 : decode cX0_multiplyModels 30 = .ok (.isub, 1) := by decide +kernel
theorem dX0_multiplyModels_31 : decode cX0_multiplyModels 31 = .ok (.invokestatic 54, 3) := by decide +kernel
theorem dX0_multiplyModels_34 : decode cX0_multiplyModels 34 = .ok (.istore 5, 2) := by decide +kernel
theorem dX0_multiplyModels_36 : decode cX0_multiplyModels 36 = .ok (.iload 4, 2) := by decide +kernel
theorem dX0_multiplyModels_38 : decode cX0_multiplyModels 38 = .ok (.iload 5, 2) := by decide +kernel
theorem dX0_multiplyModels_40 : decode cX0_multiplyModels 40 = .ok (.iadd, 1) := by decide +kernel
theorem dX0_multiplyModels_41 : decode cX0_multiplyModels 41 = .ok (.bipush 7, 2) := by decide +kernel
theorem dX0_multiplyModels_43 : decode cX0_multiplyModels 43 = .ok (.if_icmp .ge 65, 3) := by decide +kernel
theorem dX0_multiplyModels_46 : decode cX0_multiplyModels 46 = .ok (.aload_n 0, 1) := by decide +kernel
theorem dX0_multiplyModels_47 : decode cX0_multiplyModels 47 = .ok (.getfield 11, 3) := by decide +kernel
theorem dX0_multiplyModels_50 : decode cX0_multiplyModels 50 = .ok (.iload 4, 2) := by decide +kernel
theorem dX0_multiplyModels_52 : decode cX0_multiplyModels 52 = .ok (.bipush 7, 2) := by decide +kernel
theorem dX0_multiplyModels_54 : decode cX0_multiplyModels 54 = .ok (.imul, 1) := by decide +kernel
theorem dX0_multiplyModels_55 : decode cX0_multiplyModels 55 = .ok (.iload 5, 2) := by decide +kernel
theorem dX0_multiplyModels_57 : decode cX0_multiplyModels 57 = .ok (.iadd, 1) := by decide +kernel
theorem dX0_multiplyModels_58 : decode cX0_multiplyModels 58 = .ok (.laload, 1) := by decide +kernel
theorem dX0_multiplyModels_59 : decode cX0_multiplyModels 59 = .ok (.lstore 6, 2) := by decide +kernel
theorem dX0_multiplyModels_61 : decode cX0_multiplyModels 61 = .ok (.iload 4, 2) := by decide +kernel
theorem dX0_multiplyModels_63 : decode cX0_multiplyModels 63 = .ok (.iload 5, 2) := by decide +kernel
theorem dX0_multiplyModels_65 : decode cX0_multiplyModels 65 = .ok (.invokestatic 60, 3) := by decide +kernel
theorem dX0_multiplyModels_68 : decode cX0_multiplyModels 68 = .ok (.istore 8, 2) := by decide +kernel
theorem dX0_multiplyModels_70 : decode cX0_multiplyModels 70 = .ok (.aload_n 0, 1) := by decide +kernel
theorem dX0_multiplyModels_71 : decode cX0_multiplyModels 71 = .ok (.dup, 1) := by decide +kernel
theorem dX0_multiplyModels_72 : decode cX0_multiplyModels 72 = .ok (.getfield 52, 3) := by decide +kernel
theorem dX0_multiplyModels_75 : decode cX0_multiplyModels 75 = .ok (.lload 6, 2) := by decide +kernel
theorem dX0_multiplyModels_77 : decode cX0_multiplyModels 77 = .ok (.iload 8, 2) := by decide +kernel
theorem dX0_multiplyModels_79 : decode cX0_multiplyModels 79 = .ok (.invokestatic 63, 3) := by decide +kernel
theorem dX0_multiplyModels_82 : decode cX0_multiplyModels 82 = .ok (.ladd, 1) := by decide +kernel
theorem dX0_multiplyModels_83 : decode cX0_multiplyModels 83 = .ok (.putfield 52, 3) := by decide +kernel
theorem dX0_multiplyModels_86 : decode cX0_multiplyModels 86 = .ok (.aload_n 0, 1) := by decide +kernel
theorem dX0_multiplyModels_87 : decode cX0_multiplyModels 87 = .ok (.dup, 1) := by decide +kernel
theorem dX0_multiplyModels_88 : decode cX0_multiplyModels 88 = .ok (.getfield 53, 3) := by decide +kernel
theorem dX0_multiplyModels_91 : decode cX0_multiplyModels 91 = .ok (.lload 6, 2) := by decide +kernel
theorem dX0_multiplyModels_93 : decode cX0_multiplyModels 93 = .ok (.iload 8, 2) := by decide +kernel
theorem dX0_multiplyModels_95 : decode cX0_multiplyModels 95 = .ok (.invokestatic 67, 3) := by decide +kernel
theorem dX0_multiplyModels_98 : decode cX0_multiplyModels 98 = .ok (.ladd, 1) := by decide +kernel
theorem dX0_multiplyModels_99 : decode cX0_multiplyModels 99 = .ok (.putfield 53, 3) := by decide +kernel
theorem dX0_multiplyModels_102 : decode cX0_multiplyModels 102 = .ok (.iinc 5 1, 3) := by decide +kernel
theorem dX0_multiplyModels_105 : decode cX0_multiplyModels 105 = .ok (.goto (-69), 3) := by decide +kernel
theorem dX0_multiplyModels_108 : decode cX0_multiplyModels 108 = .ok (.iinc 4 1, 3) := by decide +kernel
theorem dX0_multiplyModels_111 : decode cX0_multiplyModels 111 = .ok (.goto (-92), 3) := by decide +kernel
theorem dX0_multiplyModels_114 : decode cX0_multiplyModels 114 = .ok (.aload_n 0, 1) := by decide +kernel
theorem dX0_multiplyModels_115 : decode cX0_multiplyModels 115 = .ok (.aload_n 2, 1) := by decide +kernel
theorem dX0_multiplyModels_116 : decode cX0_multiplyModels 116 = .ok (.invokevirtual 70, 3) := by decide +kernel
theorem dX0_multiplyModels_119 : decode cX0_multiplyModels 119 = .ok (.aload_n 2, 1) := by decide +kernel
theorem dX0_multiplyModels_120 : decode cX0_multiplyModels 120 = .ok (.invokevirtual 74, 3) := by decide +kernel
theorem dX0_multiplyModels_123 : decode cX0_multiplyModels 123 = .ok (.aload_n 3, 1) := by decide +kernel
theorem dX0_multiplyModels_124 : decode cX0_multiplyModels 124 = .ok (.getfield 37, 3) := by decide +kernel
theorem dX0_multiplyModels_127 : decode cX0_multiplyModels 127 = .ok (.aload_n 3, 1) := by decide +kernel
theorem dX0_multiplyModels_128 : decode cX0_multiplyModels 128 = .ok (.getfield 41, 3) := by decide +kernel
theorem dX0_multiplyModels_131 : decode cX0_multiplyModels 131 = .ok (.invokevirtual 77, 3) := by decide +kernel
theorem dX0_multiplyModels_134 : decode cX0_multiplyModels 134 = .ok (.aload_n 0, 1) := by decide +kernel
theorem dX0_multiplyModels_135 : decode cX0_multiplyModels 135 = .ok (.aload_n 2, 1) := by decide +kernel
theorem dX0_multiplyModels_136 : decode cX0_multiplyModels 136 = .ok (.getfield 37, 3) := by decide +kernel
theorem dX0_multiplyModels_139 : decode cX0_multiplyModels 139 = .ok (.aload_n 2, 1) := by decide +kernel
theorem dX0_multiplyModels_140 : decode cX0_multiplyModels 140 = .ok (.getfield 41, 3) := by decide +kernel
theorem dX0_multiplyModels_143 : decode cX0_multiplyModels 143 = .ok (.aload_n 3, 1) := by decide +kernel
theorem dX0_multiplyModels_144 : decode cX0_multiplyModels 144 = .ok (.invokevirtual 70, 3) := by decide +kernel
theorem dX0_multiplyModels_147 : decode cX0_multiplyModels 147 = .ok (.aload_n 3, 1) := by decide +kernel
theorem dX0_multiplyModels_148 : decode cX0_multiplyModels 148 = .ok (.invokevirtual 74, 3) := by decide +kernel
theorem dX0_multiplyModels_151 : decode cX0_multiplyModels 151 = .ok (.invokevirtual 77, 3) := by decide +kernel
theorem dX0_multiplyModels_154 : decode cX0_multiplyModels 154 = .ok (.aload_n 0, 1) := by decide +kernel
theorem dX0_multiplyModels_155 : decode cX0_multiplyModels 155 = .ok (.aload_n 2, 1) := by decide +kernel
theorem dX0_multiplyModels_156 : decode cX0_multiplyModels 156 = .ok (.getfield 37, 3) := by decide +kernel
theorem dX0_multiplyModels_159 : decode cX0_multiplyModels 159 = .ok (.aload_n 2, 1) := by decide +kernel
theorem dX0_multiplyModels_160 : decode cX0_multiplyModels 160 = .ok (.getfield 41, 3) := by decide +kernel
theorem dX0_multiplyModels_163 : decode cX0_multiplyModels 163 = .ok (.aload_n 3, 1) := by decide +kernel
theorem dX0_multiplyModels_164 : decode cX0_multiplyModels 164 = .ok (.getfield 37, 3) := by decide +kernel
theorem dX0_multiplyModels_167 : decode cX0_multiplyModels 167 = .ok (.aload_n 3, 1) := by decide +kernel
theorem dX0_multiplyModels_168 : decode cX0_multiplyModels 168 = .ok (.getfield 41, 3) := by decide +kernel
theorem dX0_multiplyModels_171 : decode cX0_multiplyModels 171 = .ok (.invokevirtual 77, 3) := by decide +kernel
theorem dX0_multiplyModels_174 : decode cX0_multiplyModels 174 = .ok (.aload_n 1, 1) := by decide +kernel
theorem dX0_multiplyModels_175 : decode cX0_multiplyModels 175 = .ok (.aload_n 0, 1) := by decide +kernel
theorem dX0_multiplyModels_176 : decode cX0_multiplyModels 176 = .ok (.getfield 52, 3) := by decide +kernel
theorem dX0_multiplyModels_179 : decode cX0_multiplyModels 179 = .ok (.ldc2_w 81, 3) := by decide +kernel
theorem dX0_multiplyModels_182 : decode cX0_multiplyModels 182 = .ok (.invokestatic 83, 3) := by decide +kernel
theorem dX0_multiplyModels_185 : decode cX0_multiplyModels 185 = .ok (.putfield 37, 3) := by decide +kernel
theorem dX0_multiplyModels_188 : decode cX0_multiplyModels 188 = .ok (.aload_n 1, 1) := by decide +kernel
theorem dX0_multiplyModels_189 : decode cX0_multiplyModels 189 = .ok (.aload_n 0, 1) := by decide +kernel
theorem dX0_multiplyModels_190 : decode cX0_multiplyModels 190 = .ok (.getfield 53, 3) := by decide +kernel
theorem dX0_multiplyModels_193 : decode cX0_multiplyModels 193 = .ok (.lneg, 1) := by decide +kernel
theorem dX0_multiplyModels_194 : decode cX0_multiplyModels 194 = .ok (.ldc2_w 81, 3) := by decide +kernel
theorem dX0_multiplyModels_197 : decode cX0_multiplyModels 197 = .ok (.invokestatic 83, 3) := by decide +kernel
theorem dX0_multiplyModels_200 : decode cX0_multiplyModels 200 = .ok (.lneg, 1) := by decide +kernel
theorem dX0_multiplyModels_201 : decode cX0_multiplyModels 201 = .ok (.putfield 41, 3) := by decide +kernel
theorem dX0_multiplyModels_204 : decode cX0_multiplyModels 204 = .ok (.iconst 0, 1) := by decide +kernel
theorem dX0_multiplyModels_205 : decode cX0_multiplyModels 205 = .ok (.istore 4, 2) := by decide +kernel
theorem dX0_multiplyModels_207 : decode cX0_multiplyModels 207 = .ok (.iload 4, 2) := by decide +kernel
theorem dX0_multiplyModels_209 : decode cX0_multiplyModels 209 = .ok (.bipush 10, 2) := by decide +kernel
theorem dX0_multiplyModels_211 : decode cX0_multiplyModels 211 = .ok (.if_icmp .ge 39, 3) := by decide +kernel
theorem dX0_multiplyModels_214 : decode cX0_multiplyModels 214 = .ok (.aload_n 1, 1) := by decide +kernel
theorem dX0_multiplyModels_215 : decode cX0_multiplyModels 215 = .ok (.iload 4, 2) := by decide +kernel
theorem dX0_multiplyModels_217 : decode cX0_multiplyModels 217 = .ok (.aload_n 0, 1) := by decide +kernel
theorem dX0_multiplyModels_218 : decode cX0_multiplyModels 218 = .ok (.getfield 11, 3) := by decide +kernel
theorem dX0_multiplyModels_221 : decode cX0_multiplyModels 221 = .ok (.getstatic 87, 3) := by decide +kernel
theorem dX0_multiplyModels_224 : decode cX0_multiplyModels 224 = .ok (.iload 4, 2) := by decide +kernel
theorem dX0_multiplyModels_226 : decode cX0_multiplyModels 226 = .ok (.iaload, 1) := by decide +kernel
theorem dX0_multiplyModels_227 : decode cX0_multiplyModels 227 = .ok (.bipush 7, 2) := by decide +kernel
theorem dX0_multiplyModels_229 : decode cX0_multiplyModels 229 = .ok (.imul, 1) := by decide +kernel
theorem dX0_multiplyModels_230 : decode cX0_multiplyModels 230 = .ok (.getstatic 91, 3) := by decide +kernel
theorem dX0_multiplyModels_233 : decode cX0_multiplyModels 233 = .ok (.iload 4, 2) := by decide +kernel
theorem dX0_multiplyModels_235 : decode cX0_multiplyModels 235 = .ok (.iaload, 1) := by decide +kernel
theorem dX0_multiplyModels_236 : decode cX0_multiplyModels 236 = .ok (.iadd, 1) := by decide +kernel
theorem dX0_multiplyModels_237 : decode cX0_multiplyModels 237 = .ok (.laload, 1) := by decide +kernel
theorem dX0_multiplyModels_238 : decode cX0_multiplyModels 238 = .ok (.ldc2_w 81, 3) := by decide +kernel
theorem dX0_multiplyModels_241 : decode cX0_multiplyModels 241 = .ok (.invokevirtual 94, 3) := by decide +kernel
theorem dX0_multiplyModels_244 : decode cX0_multiplyModels 244 = .ok (.iinc 4 1, 3) := by decide +kernel
theorem dX0_multiplyModels_247 : decode cX0_multiplyModels 247 = .ok (.goto (-40), 3) := by decide +kernel
theorem dX0_multiplyModels_250 : decode cX0_multiplyModels 250 = .ok (.aload_n 1, 1) := by decide +kernel
theorem dX0_multiplyModels_251 : decode cX0_multiplyModels 251 = .ok (.invokevirtual 44, 3) := by decide +kernel
theorem dX0_multiplyModels_254 : decode cX0_multiplyModels 254 = .ok (.ireturn, 1) := by decide +kernel
theorem dX0_collectProducts_0 : decode cX0_collectProducts 0 = .ok (.aload_n 0, 1) := by decide +kernel
theorem dX0_collectProducts_1 : decode cX0_collectProducts 1 = .ok (.getfield 11, 3) := by decide +kernel
theorem dX0_collectProducts_4 : decode cX0_collectProducts 4 = .ok (.lconst 0, 1) := by decide +kernel
theorem dX0_collectProducts_5 : decode cX0_collectProducts 5 = .ok (.invokestatic 98, 3) := by decide +kernel
theorem dX0_collectProducts_8 : decode cX0_collectProducts 8 = .ok (.iconst 0, 1) := by decide +kernel
theorem dX0_collectProducts_9 : decode cX0_collectProducts 9 = .ok (.istore_n 3, 1) := by decide +kernel
theorem dX0_collectProducts_10 : decode cX0_collectProducts 10 = .ok (.iload_n 3, 1) := by decide +kernel
theorem dX0_collectProducts_11 : decode cX0_collectProducts 11 = .ok (.bipush 10, 2) := by decide +kernel
theorem dX0_collectProducts_13 : decode cX0_collectProducts 13 = .ok (.if_icmp .ge 90, 3) := by decide +kernel
theorem dX0_collectProducts_16 : decode cX0_collectProducts 16 = .ok (.iconst 0, 1) := by decide +kernel
theorem dX0_collectProducts_17 : decode cX0_collectProducts 17 = .ok (.istore 4, 2) := by decide +kernel
theorem dX0_collectProducts_19 : decode cX0_collectProducts 19 = .ok (.aload_n 1, 1) := by decide +kernel
theorem dX0_collectProducts_20 : decode cX0_collectProducts 20 = .ok (.getfield 34, 3) := by decide +kernel
theorem dX0_collectProducts_23 : decode cX0_collectProducts 23 = .ok (.iload_n 3, 1) := by decide +kernel
theorem dX0_collectProducts_24 : decode cX0_collectProducts 24 = .ok (.laload, 1) := by decide +kernel
theorem dX0_collectProducts_25 : decode cX0_collectProducts 25 = .ok (.lconst 0, 1) := by decide +kernel
theorem dX0_collectProducts_26 : decode cX0_collectProducts 26 = .ok (.lcmp, 1) := by decide +kernel
theorem dX0_collectProducts_27 : decode cX0_collectProducts 27 = .ok (.ifCond .eq 70, 3) := by decide +kernel
theorem dX0_collectProducts_30 : decode cX0_collectProducts 30 = .ok (.iload 4, 2) := by decide +kernel
theorem dX0_collectProducts_32 : decode cX0_collectProducts 32 = .ok (.bipush 10, 2) := by decide +kernel
theorem dX0_collectProducts_34 : decode cX0_collectProducts 34 = .ok (.if_icmp .ge 63, 3) := by decide +kernel
theorem dX0_collectProducts_37 : decode cX0_collectProducts 37 = .ok (.getstatic 87, 3) := by decide +kernel
theorem dX0_collectProducts_40 : decode cX0_collectProducts 40 = .ok (.iload_n 3, 1) := by decide +kernel
theorem dX0_collectProducts_41 : decode cX0_collectProducts 41 = .ok (.iaload, 1) := by decide +kernel
theorem dX0_collectProducts_42 : decode cX0_collectProducts 42 = .ok (.getstatic 87, 3) := by decide +kernel
theorem dX0_collectProducts_45 : decode cX0_collectProducts 45 = .ok (.iload 4, 2) := by decide +kernel
theorem dX0_collectProducts_47 : decode cX0_collectProducts 47 = .ok (.iaload, 1) := by decide +kernel
theorem dX0_collectProducts_48 : decode cX0_collectProducts 48 = .ok (.iadd, 1) := by decide +kernel
theorem dX0_collectProducts_49 : decode cX0_collectProducts 49 = .ok (.bipush 7, 2) := by decide +kernel
theorem dX0_collectProducts_51 : decode cX0_collectProducts 51 = .ok (.imul, 1) := by decide +kernel
theorem dX0_collectProducts_52 : decode cX0_collectProducts 52 = .ok (.getstatic 91, 3) := by decide +kernel
theorem dX0_collectProducts_55 : decode cX0_collectProducts 55 = .ok (.iload_n 3, 1) := by decide +kernel
theorem dX0_collectProducts_56 : decode cX0_collectProducts 56 = .ok (.iaload, 1) := by decide +kernel
theorem dX0_collectProducts_57 : decode cX0_collectProducts 57 = .ok (.iadd, 1) := by decide +kernel
theorem dX0_collectProducts_58 : decode cX0_collectProducts 58 = .ok (.getstatic 91, 3) := by decide +kernel
theorem dX0_collectProducts_61 : decode cX0_collectProducts 61 = .ok (.iload 4, 2) := by decide +kernel
theorem dX0_collectProducts_63 : decode cX0_collectProducts 63 = .ok (.iaload, 1) := by decide +kernel
theorem dX0_collectProducts_64 : decode cX0_collectProducts 64 = .ok (.iadd, 1) := by decide +kernel
theorem dX0_collectProducts_65 : decode cX0_collectProducts 65 = .ok (.istore 5, 2) := by decide +kernel
theorem dX0_collectProducts_67 : decode cX0_collectProducts 67 = .ok (.aload_n 0, 1) := by decide +kernel
theorem dX0_collectProducts_68 : decode cX0_collectProducts 68 = .ok (.getfield 11, 3) := by decide +kernel
theorem dX0_collectProducts_71 : decode cX0_collectProducts 71 = .ok (.iload 5, 2) := by decide +kernel
theorem dX0_collectProducts_73 : decode cX0_collectProducts 73 = .ok (.dup2, 1) := by decide +kernel
theorem dX0_collectProducts_74 : decode cX0_collectProducts 74 = .ok (.laload, 1) := by decide +kernel
theorem dX0_collectProducts_75 : decode cX0_collectProducts 75 = .ok (.aload_n 1, 1) := by decide +kernel
theorem dX0_collectProducts_76 : decode cX0_collectProducts 76 = .ok (.getfield 34, 3) := by decide +kernel
theorem dX0_collectProducts_79 : decode cX0_collectProducts 79 = .ok (.iload_n 3, 1) := by decide +kernel
theorem dX0_collectProducts_80 : decode cX0_collectProducts 80 = .ok (.laload, 1) := by decide +kernel
theorem dX0_collectProducts_81 : decode cX0_collectProducts 81 = .ok (.aload_n 2, 1) := by decide +kernel
theorem dX0_collectProducts_82 : decode cX0_collectProducts 82 = .ok (.getfield 34, 3) := by decide +kernel
theorem dX0_collectProducts_85 : decode cX0_collectProducts 85 = .ok (.iload 4, 2) := by decide +kernel
theorem dX0_collectProducts_87 : decode cX0_collectProducts 87 = .ok (.laload, 1) := by decide +kernel
theorem dX0_collectProducts_88 : decode cX0_collectProducts 88 = .ok (.lmul, 1) := by decide +kernel
theorem dX0_collectProducts_89 : decode cX0_collectProducts 89 = .ok (.ladd, 1) := by decide +kernel
theorem dX0_collectProducts_90 : decode cX0_collectProducts 90 = .ok (.lastore, 1) := by decide +kernel
theorem dX0_collectProducts_91 : decode cX0_collectProducts 91 = .ok (.iinc 4 1, 3) := by decide +kernel
theorem dX0_collectProducts_94 : decode cX0_collectProducts 94 = .ok (.goto (-75), 3) := by decide +kernel
theorem dX0_collectProducts_97 : decode cX0_collectProducts 97 = .ok (.iinc 3 1, 3) := by decide +kernel
theorem dX0_collectProducts_100 : decode cX0_collectProducts 100 = .ok (.goto (-90), 3) := by decide +kernel
theorem dX0_collectProducts_103 : decode cX0_collectProducts 103 = .ok (.return_, 1) := by decide +kernel
theorem dX0_addIntervalProduct_0 : decode cX0_addIntervalProduct 0 = .ok (.lload_n 1, 1) := by decide +kernel
theorem dX0_addIntervalProduct_1 : decode cX0_addIntervalProduct 1 = .ok (.lload 5, 2) := by decide +kernel
theorem dX0_addIntervalProduct_3 : decode cX0_addIntervalProduct 3 = .ok (.lmul, 1) := by decide +kernel
theorem dX0_addIntervalProduct_4 : decode cX0_addIntervalProduct 4 = .ok (.lstore 9, 2) := by decide +kernel
theorem dX0_addIntervalProduct_6 : decode cX0_addIntervalProduct 6 = .ok (.lload_n 1, 1) := by decide +kernel
theorem dX0_addIntervalProduct_7 : decode cX0_addIntervalProduct 7 = .ok (.lload 7, 2) := by decide +kernel
theorem dX0_addIntervalProduct_9 : decode cX0_addIntervalProduct 9 = .ok (.lmul, 1) := by decide +kernel
theorem dX0_addIntervalProduct_10 : decode cX0_addIntervalProduct 10 = .ok (.lstore 11, 2) := by decide +kernel
theorem dX0_addIntervalProduct_12 : decode cX0_addIntervalProduct 12 = .ok (.lload_n 3, 1) := by decide +kernel
theorem dX0_addIntervalProduct_13 : decode cX0_addIntervalProduct 13 = .ok (.lload 5, 2) := by decide +kernel
theorem dX0_addIntervalProduct_15 : decode cX0_addIntervalProduct 15 = .ok (.lmul, 1) := by decide +kernel
theorem dX0_addIntervalProduct_16 : decode cX0_addIntervalProduct 16 = .ok (.lstore 13, 2) := by decide +kernel
theorem dX0_addIntervalProduct_18 : decode cX0_addIntervalProduct 18 = .ok (.lload_n 3, 1) := by decide +kernel
theorem dX0_addIntervalProduct_19 : decode cX0_addIntervalProduct 19 = .ok (.lload 7, 2) := by decide +kernel
theorem dX0_addIntervalProduct_21 : decode cX0_addIntervalProduct 21 = .ok (.lmul, 1) := by decide +kernel
theorem dX0_addIntervalProduct_22 : decode cX0_addIntervalProduct 22 = .ok (.lstore 15, 2) := by decide +kernel
theorem dX0_addIntervalProduct_24 : decode cX0_addIntervalProduct 24 = .ok (.aload_n 0, 1) := by decide +kernel
theorem dX0_addIntervalProduct_25 : decode cX0_addIntervalProduct 25 = .ok (.dup, 1) := by decide +kernel
theorem dX0_addIntervalProduct_26 : decode cX0_addIntervalProduct 26 = .ok (.getfield 52, 3) := by decide +kernel
theorem dX0_addIntervalProduct_29 : decode cX0_addIntervalProduct 29 = .ok (.lload 9, 2) := by decide +kernel
theorem dX0_addIntervalProduct_31 : decode cX0_addIntervalProduct 31 = .ok (.lload 11, 2) := by decide +kernel
theorem dX0_addIntervalProduct_33 : decode cX0_addIntervalProduct 33 = .ok (.invokestatic 104, 3) := by decide +kernel
theorem dX0_addIntervalProduct_36 : decode cX0_addIntervalProduct 36 = .ok (.lload 13, 2) := by decide +kernel
theorem dX0_addIntervalProduct_38 : decode cX0_addIntervalProduct 38 = .ok (.lload 15, 2) := by decide +kernel
theorem dX0_addIntervalProduct_40 : decode cX0_addIntervalProduct 40 = .ok (.invokestatic 104, 3) := by decide +kernel
theorem dX0_addIntervalProduct_43 : decode cX0_addIntervalProduct 43 = .ok (.invokestatic 104, 3) := by decide +kernel
theorem dX0_addIntervalProduct_46 : decode cX0_addIntervalProduct 46 = .ok (.ladd, 1) := by decide +kernel
theorem dX0_addIntervalProduct_47 : decode cX0_addIntervalProduct 47 = .ok (.putfield 52, 3) := by decide +kernel
theorem dX0_addIntervalProduct_50 : decode cX0_addIntervalProduct 50 = .ok (.aload_n 0, 1) := by decide +kernel
theorem dX0_addIntervalProduct_51 : decode cX0_addIntervalProduct 51 = .ok (.dup, 1) := by decide +kernel
theorem dX0_addIntervalProduct_52 : decode cX0_addIntervalProduct 52 = .ok (.getfield 53, 3) := by decide +kernel
theorem dX0_addIntervalProduct_55 : decode cX0_addIntervalProduct 55 = .ok (.lload 9, 2) := by decide +kernel
theorem dX0_addIntervalProduct_57 : decode cX0_addIntervalProduct 57 = .ok (.lload 11, 2) := by decide +kernel
theorem dX0_addIntervalProduct_59 : decode cX0_addIntervalProduct 59 = .ok (.invokestatic 107, 3) := by decide +kernel
theorem dX0_addIntervalProduct_62 : decode cX0_addIntervalProduct 62 = .ok (.lload 13, 2) := by decide +kernel
theorem dX0_addIntervalProduct_64 : decode cX0_addIntervalProduct 64 = .ok (.lload 15, 2) := by decide +kernel
theorem dX0_addIntervalProduct_66 : decode cX0_addIntervalProduct 66 = .ok (.invokestatic 107, 3) := by decide +kernel
theorem dX0_addIntervalProduct_69 : decode cX0_addIntervalProduct 69 = .ok (.invokestatic 107, 3) := by decide +kernel
theorem dX0_addIntervalProduct_72 : decode cX0_addIntervalProduct 72 = .ok (.ladd, 1) := by decide +kernel
theorem dX0_addIntervalProduct_73 : decode cX0_addIntervalProduct 73 = .ok (.putfield 53, 3) := by decide +kernel
theorem dX0_addIntervalProduct_76 : decode cX0_addIntervalProduct 76 = .ok (.return_, 1) := by decide +kernel
theorem dX0_composeModels_0 : decode cX0_composeModels 0 = .ok (.aload_n 3, 1) := by decide +kernel
theorem dX0_composeModels_1 : decode cX0_composeModels 1 = .ok (.invokevirtual 109, 3) := by decide +kernel
theorem dX0_composeModels_4 : decode cX0_composeModels 4 = .ok (.ifCond .eq 11, 3) := by decide +kernel
theorem dX0_composeModels_7 : decode cX0_composeModels 7 = .ok (.aload 4, 2) := by decide +kernel
theorem dX0_composeModels_9 : decode cX0_composeModels 9 = .ok (.invokevirtual 109, 3) := by decide +kernel
theorem dX0_composeModels_12 : decode cX0_composeModels 12 = .ok (.ifCond .ne 5, 3) := by decide +kernel
theorem dX0_composeModels_15 : decode cX0_composeModels 15 = .ok (.iconst 0, 1) := by decide +kernel
theorem dX0_composeModels_16 : decode cX0_composeModels 16 = .ok (.ireturn, 1) := by decide +kernel
theorem dX0_composeModels_17 : decode cX0_composeModels 17 = .ok (.aload_n 0, 1) := by decide +kernel
theorem dX0_composeModels_18 : decode cX0_composeModels 18 = .ok (.getfield 22, 3) := by decide +kernel
theorem dX0_composeModels_21 : decode cX0_composeModels 21 = .ok (.lconst 0, 1) := by decide +kernel
theorem dX0_composeModels_22 : decode cX0_composeModels 22 = .ok (.invokevirtual 112, 3) := by decide +kernel
theorem dX0_composeModels_25 : decode cX0_composeModels 25 = .ok (.iconst 0, 1) := by decide +kernel
theorem dX0_composeModels_26 : decode cX0_composeModels 26 = .ok (.istore 5, 2) := by decide +kernel
theorem dX0_composeModels_28 : decode cX0_composeModels 28 = .ok (.iload 5, 2) := by decide +kernel
theorem dX0_composeModels_30 : decode cX0_composeModels 30 = .ok (.bipush 10, 2) := by decide +kernel
theorem dX0_composeModels_32 : decode cX0_composeModels 32 = .ok (.if_icmp .ge 117, 3) := by decide +kernel
theorem dX0_composeModels_35 : decode cX0_composeModels 35 = .ok (.aload_n 2, 1) := by decide +kernel
theorem dX0_composeModels_36 : decode cX0_composeModels 36 = .ok (.getfield 34, 3) := by decide +kernel
theorem dX0_composeModels_39 : decode cX0_composeModels 39 = .ok (.iload 5, 2) := by decide +kernel
theorem dX0_composeModels_41 : decode cX0_composeModels 41 = .ok (.laload, 1) := by decide +kernel
theorem dX0_composeModels_42 : decode cX0_composeModels 42 = .ok (.lconst 0, 1) := by decide +kernel
theorem dX0_composeModels_43 : decode cX0_composeModels 43 = .ok (.lcmp, 1) := by decide +kernel
theorem dX0_composeModels_44 : decode cX0_composeModels 44 = .ok (.ifCond .eq 99, 3) := by decide +kernel
theorem dX0_composeModels_47 : decode cX0_composeModels 47 = .ok (.aload_n 0, 1) := by decide +kernel
theorem dX0_composeModels_48 : decode cX0_composeModels 48 = .ok (.getfield 18, 3) := by decide +kernel
theorem dX0_composeModels_51 : decode cX0_composeModels 51 = .ok (.aload_n 2, 1) := by decide +kernel
theorem dX0_composeModels_52 : decode cX0_composeModels 52 = .ok (.getfield 34, 3) := by decide +kernel
theorem dX0_composeModels_55 : decode cX0_composeModels 55 = .ok (.iload 5, 2) := by decide +kernel
theorem dX0_composeModels_57 : decode cX0_composeModels 57 = .ok (.laload, 1) := by decide +kernel
theorem dX0_composeModels_58 : decode cX0_composeModels 58 = .ok (.invokevirtual 112, 3) := by decide +kernel
theorem dX0_composeModels_61 : decode cX0_composeModels 61 = .ok (.iconst 0, 1) := by decide +kernel
theorem dX0_composeModels_62 : decode cX0_composeModels 62 = .ok (.istore 6, 2) := by decide +kernel
theorem dX0_composeModels_64 : decode cX0_composeModels 64 = .ok (.iload 6, 2) := by decide +kernel
theorem dX0_composeModels_66 : decode cX0_composeModels 66 = .ok (.getstatic 87, 3) := by decide +kernel
theorem dX0_composeModels_69 : decode cX0_composeModels 69 = .ok (.iload 5, 2) := by decide +kernel
theorem dX0_composeModels_71 : decode cX0_composeModels 71 = .ok (.iaload, 1) := by decide +kernel
theorem dX0_composeModels_72 : decode cX0_composeModels 72 = .ok (.getstatic 91, 3) := by decide +kernel
theorem dX0_composeModels_75 : decode cX0_composeModels 75 = .ok (.iload 5, 2) := by decide +kernel
theorem dX0_composeModels_77 : decode cX0_composeModels 77 = .ok (.iaload, 1) := by decide +kernel
theorem dX0_composeModels_78 : decode cX0_composeModels 78 = .ok (.iadd, 1) := by decide +kernel
theorem dX0_composeModels_79 : decode cX0_composeModels 79 = .ok (.if_icmp .ge 43, 3) := by decide +kernel
theorem dX0_composeModels_82 : decode cX0_composeModels 82 = .ok (.aload_n 0, 1) := by decide +kernel
theorem dX0_composeModels_83 : decode cX0_composeModels 83 = .ok (.aload_n 0, 1) := by decide +kernel
theorem dX0_composeModels_84 : decode cX0_composeModels 84 = .ok (.getfield 18, 3) := by decide +kernel
theorem dX0_composeModels_87 : decode cX0_composeModels 87 = .ok (.aload_n 0, 1) := by decide +kernel
theorem dX0_composeModels_88 : decode cX0_composeModels 88 = .ok (.getfield 18, 3) := by decide +kernel
theorem dX0_composeModels_91 : decode cX0_composeModels 91 = .ok (.iload 6, 2) := by decide +kernel
theorem dX0_composeModels_93 : decode cX0_composeModels 93 = .ok (.getstatic 87, 3) := by decide +kernel
theorem dX0_composeModels_96 : decode cX0_composeModels 96 = .ok (.iload 5, 2) := by decide +kernel
theorem dX0_composeModels_98 : decode cX0_composeModels 98 = .ok (.iaload, 1) := by decide +kernel
theorem dX0_composeModels_99 : decode cX0_composeModels 99 = .ok (.if_icmp .ge 7, 3) := by decide +kernel
theorem dX0_composeModels_102 : decode cX0_composeModels 102 = .ok (.aload_n 3, 1) := by decide +kernel
theorem dX0_composeModels_103 : decode cX0_composeModels 103 = .ok (.goto 5, 3) := by decide +kernel
theorem dX0_composeModels_106 : decode cX0_composeModels 106 = .ok (.aload 4, 2) := by decide +kernel
theorem dX0_composeModels_108 : decode cX0_composeModels 108 = .ok (.invokevirtual 116, 3) := by decide +kernel
theorem dX0_composeModels_111 : decode cX0_composeModels 111 = .ok (.ifCond .ne 5, 3) := by decide +kernel
theorem dX0_composeModels_114 : decode cX0_composeModels 114 = .ok (.iconst 0, 1) := by decide +kernel
theorem dX0_composeModels_115 : decode cX0_composeModels 115 = .ok (.ireturn, 1) := by decide +kernel
theorem dX0_composeModels_116 : decode cX0_composeModels 116 = .ok (.iinc 6 1, 3) := by decide +kernel
theorem dX0_composeModels_119 : decode cX0_composeModels 119 = .ok (.goto (-55), 3) := by decide +kernel
theorem dX0_composeModels_122 : decode cX0_composeModels 122 = .ok (.aload_n 0, 1) := by decide +kernel
theorem dX0_composeModels_123 : decode cX0_composeModels 123 = .ok (.aload_n 0, 1) := by decide +kernel
theorem dX0_composeModels_124 : decode cX0_composeModels 124 = .ok (.getfield 22, 3) := by decide +kernel
theorem dX0_composeModels_127 : decode cX0_composeModels 127 = .ok (.aload_n 0, 1) := by decide +kernel
theorem dX0_composeModels_128 : decode cX0_composeModels 128 = .ok (.getfield 22, 3) := by decide +kernel
theorem dX0_composeModels_131 : decode cX0_composeModels 131 = .ok (.aload_n 0, 1) := by decide +kernel
theorem dX0_composeModels_132 : decode cX0_composeModels 132 = .ok (.getfield 18, 3) := by decide +kernel
theorem dX0_composeModels_135 : decode cX0_composeModels 135 = .ok (.invokevirtual 120, 3) := by decide +kernel
theorem dX0_composeModels_138 : decode cX0_composeModels 138 = .ok (.ifCond .ne 5, 3) := by decide +kernel
theorem dX0_composeModels_141 : decode cX0_composeModels 141 = .ok (.iconst 0, 1) := by decide +kernel
theorem dX0_composeModels_142 : decode cX0_composeModels 142 = .ok (.ireturn, 1) := by decide +kernel
theorem dX0_composeModels_143 : decode cX0_composeModels 143 = .ok (.iinc 5 1, 3) := by decide +kernel
theorem dX0_composeModels_146 : decode cX0_composeModels 146 = .ok (.goto (-118), 3) := by decide +kernel
theorem dX0_composeModels_149 : decode cX0_composeModels 149 = .ok (.aload_n 0, 1) := by decide +kernel
theorem dX0_composeModels_150 : decode cX0_composeModels 150 = .ok (.getfield 22, 3) := by decide +kernel
theorem dX0_composeModels_153 : decode cX0_composeModels 153 = .ok (.dup, 1) := by decide +kernel
theorem dX0_composeModels_154 : decode cX0_composeModels 154 = .ok (.getfield 37, 3) := by decide +kernel
theorem dX0_composeModels_157 : decode cX0_composeModels 157 = .ok (.aload_n 2, 1) := by decide +kernel
theorem dX0_composeModels_158 : decode cX0_composeModels 158 = .ok (.getfield 37, 3) := by decide +kernel
theorem dX0_composeModels_161 : decode cX0_composeModels 161 = .ok (.ladd, 1) := by decide +kernel
theorem dX0_composeModels_162 : decode cX0_composeModels 162 = .ok (.putfield 37, 3) := by decide +kernel
theorem dX0_composeModels_165 : decode cX0_composeModels 165 = .ok (.aload_n 0, 1) := by decide +kernel
theorem dX0_composeModels_166 : decode cX0_composeModels 166 = .ok (.getfield 22, 3) := by decide +kernel
theorem dX0_composeModels_169 : decode cX0_composeModels 169 = .ok (.dup, 1) := by decide +kernel
theorem dX0_composeModels_170 : decode cX0_composeModels 170 = .ok (.getfield 41, 3) := by decide +kernel
theorem dX0_composeModels_173 : decode cX0_composeModels 173 = .ok (.aload_n 2, 1) := by decide +kernel
theorem dX0_composeModels_174 : decode cX0_composeModels 174 = .ok (.getfield 41, 3) := by decide +kernel
theorem dX0_composeModels_177 : decode cX0_composeModels 177 = .ok (.ladd, 1) := by decide +kernel
theorem dX0_composeModels_178 : decode cX0_composeModels 178 = .ok (.putfield 41, 3) := by decide +kernel
theorem dX0_composeModels_181 : decode cX0_composeModels 181 = .ok (.aload_n 1, 1) := by decide +kernel
theorem dX0_composeModels_182 : decode cX0_composeModels 182 = .ok (.aload_n 0, 1) := by decide +kernel
theorem dX0_composeModels_183 : decode cX0_composeModels 183 = .ok (.getfield 22, 3) := by decide +kernel
theorem dX0_composeModels_186 : decode cX0_composeModels 186 = .ok (.invokevirtual 123, 3) := by decide +kernel
theorem dX0_composeModels_189 : decode cX0_composeModels 189 = .ok (.aload_n 1, 1) := by decide +kernel
theorem dX0_composeModels_190 : decode cX0_composeModels 190 = .ok (.invokevirtual 44, 3) := by decide +kernel
theorem dX0_composeModels_193 : decode cX0_composeModels 193 = .ok (.ireturn, 1) := by decide +kernel
theorem dX0_integrateModel_0 : decode cX0_integrateModel 0 = .ok (.aload_n 0, 1) := by decide +kernel
theorem dX0_integrateModel_1 : decode cX0_integrateModel 1 = .ok (.getfield 22, 3) := by decide +kernel
theorem dX0_integrateModel_4 : decode cX0_integrateModel 4 = .ok (.lconst 0, 1) := by decide +kernel
theorem dX0_integrateModel_5 : decode cX0_integrateModel 5 = .ok (.invokevirtual 112, 3) := by decide +kernel
theorem dX0_integrateModel_8 : decode cX0_integrateModel 8 = .ok (.aload_n 0, 1) := by decide +kernel
theorem dX0_integrateModel_9 : decode cX0_integrateModel 9 = .ok (.getfield 22, 3) := by decide +kernel
theorem dX0_integrateModel_12 : decode cX0_integrateModel 12 = .ok (.aload_n 2, 1) := by decide +kernel
theorem dX0_integrateModel_13 : decode cX0_integrateModel 13 = .ok (.getfield 37, 3) := by decide +kernel
theorem dX0_integrateModel_16 : decode cX0_integrateModel 16 = .ok (.invokestatic 127, 3) := by decide +kernel
theorem dX0_integrateModel_19 : decode cX0_integrateModel 19 = .ok (.aload_n 2, 1) := by decide +kernel
theorem dX0_integrateModel_20 : decode cX0_integrateModel 20 = .ok (.getfield 41, 3) := by decide +kernel
theorem dX0_integrateModel_23 : decode cX0_integrateModel 23 = .ok (.invokestatic 127, 3) := by decide +kernel
theorem dX0_integrateModel_26 : decode cX0_integrateModel 26 = .ok (.invokestatic 107, 3) := by decide +kernel
theorem dX0_integrateModel_29 : decode cX0_integrateModel 29 = .ok (.invokevirtual 131, 3) := by decide +kernel
theorem dX0_integrateModel_32 : decode cX0_integrateModel 32 = .ok (.iconst 0, 1) := by decide +kernel
theorem dX0_integrateModel_33 : decode cX0_integrateModel 33 = .ok (.istore 4, 2) := by decide +kernel
theorem dX0_integrateModel_35 : decode cX0_integrateModel 35 = .ok (.iload 4, 2) := by decide +kernel
theorem dX0_integrateModel_37 : decode cX0_integrateModel 37 = .ok (.bipush 10, 2) := by decide +kernel
theorem dX0_integrateModel_39 : decode cX0_integrateModel 39 = .ok (.if_icmp .ge 81, 3) := by decide +kernel
theorem dX0_integrateModel_42 : decode cX0_integrateModel 42 = .ok (.iload_n 3, 1) := by decide +kernel
theorem dX0_integrateModel_43 : decode cX0_integrateModel 43 = .ok (.ifCond .ne 14, 3) := by decide +kernel
theorem dX0_integrateModel_46 : decode cX0_integrateModel 46 = .ok (.getstatic 87, 3) := by decide +kernel
theorem dX0_integrateModel_49 : decode cX0_integrateModel 49 = .ok (.iload 4, 2) := by decide +kernel
theorem dX0_integrateModel_51 : decode cX0_integrateModel 51 = .ok (.iaload, 1) := by decide +kernel
theorem dX0_integrateModel_52 : decode cX0_integrateModel 52 = .ok (.iconst 1, 1) := by decide +kernel
theorem dX0_integrateModel_53 : decode cX0_integrateModel 53 = .ok (.iadd, 1) := by decide +kernel
theorem dX0_integrateModel_54 : decode cX0_integrateModel 54 = .ok (.goto 9, 3) := by decide +kernel
theorem dX0_integrateModel_57 : decode cX0_integrateModel 57 = .ok (.getstatic 87, 3) := by decide +kernel
theorem dX0_integrateModel_60 : decode cX0_integrateModel 60 = .ok (.iload 4, 2) := by decide +kernel
theorem dX0_integrateModel_62 : decode cX0_integrateModel 62 = .ok (.iaload, 1) := by decide +kernel
theorem dX0_integrateModel_63 : decode cX0_integrateModel 63 = .ok (.istore 5, 2) := by decide +kernel
theorem dX0_integrateModel_65 : decode cX0_integrateModel 65 = .ok (.iload_n 3, 1) := by decide +kernel
theorem dX0_integrateModel_66 : decode cX0_integrateModel 66 = .ok (.ifCond .ne 12, 3) := by decide +kernel
theorem dX0_integrateModel_69 : decode cX0_integrateModel 69 = .ok (.getstatic 91, 3) := by decide +kernel
theorem dX0_integrateModel_72 : decode cX0_integrateModel 72 = .ok (.iload 4, 2) := by decide +kernel
theorem dX0_integrateModel_74 : decode cX0_integrateModel 74 = .ok (.iaload, 1) := by decide +kernel
theorem dX0_integrateModel_75 : decode cX0_integrateModel 75 = .ok (.goto 11, 3) := by decide +kernel
theorem dX0_integrateModel_78 : decode cX0_integrateModel 78 = .ok (.getstatic 91, 3) := by decide +kernel
theorem dX0_integrateModel_81 : decode cX0_integrateModel 81 = .ok (.iload 4, 2) := by decide +kernel
theorem dX0_integrateModel_83 : decode cX0_integrateModel 83 = .ok (.iaload, 1) := by decide +kernel
theorem dX0_integrateModel_84 : decode cX0_integrateModel 84 = .ok (.iconst 1, 1) := by decide +kernel
theorem dX0_integrateModel_85 : decode cX0_integrateModel 85 = .ok (.iadd, 1) := by decide +kernel
theorem dX0_integrateModel_86 : decode cX0_integrateModel 86 = .ok (.istore 6, 2) := by decide +kernel
theorem dX0_integrateModel_88 : decode cX0_integrateModel 88 = .ok (.aload_n 0, 1) := by decide +kernel
theorem dX0_integrateModel_89 : decode cX0_integrateModel 89 = .ok (.aload_n 2, 1) := by decide +kernel
theorem dX0_integrateModel_90 : decode cX0_integrateModel 90 = .ok (.getfield 34, 3) := by decide +kernel
theorem dX0_integrateModel_93 : decode cX0_integrateModel 93 = .ok (.iload 4, 2) := by decide +kernel
theorem dX0_integrateModel_95 : decode cX0_integrateModel 95 = .ok (.laload, 1) := by decide +kernel
theorem dX0_integrateModel_96 : decode cX0_integrateModel 96 = .ok (.iload 5, 2) := by decide +kernel
theorem dX0_integrateModel_98 : decode cX0_integrateModel 98 = .ok (.iload 6, 2) := by decide +kernel
theorem dX0_integrateModel_100 : decode cX0_integrateModel 100 = .ok (.iload_n 3, 1) := by decide +kernel
theorem dX0_integrateModel_101 : decode cX0_integrateModel 101 = .ok (.ifCond .ne 8, 3) := by decide +kernel
theorem dX0_integrateModel_104 : decode cX0_integrateModel 104 = .ok (.iload 5, 2) := by decide +kernel
theorem dX0_integrateModel_106 : decode cX0_integrateModel 106 = .ok (.goto 5, 3) := by decide +kernel
theorem dX0_integrateModel_109 : decode cX0_integrateModel 109 = .ok (.iload 6, 2) := by decide +kernel
theorem dX0_integrateModel_111 : decode cX0_integrateModel 111 = .ok (.invokevirtual 134, 3) := by decide +kernel
theorem dX0_integrateModel_114 : decode cX0_integrateModel 114 = .ok (.iinc 4 1, 3) := by decide +kernel
theorem dX0_integrateModel_117 : decode cX0_integrateModel 117 = .ok (.goto (-82), 3) := by decide +kernel
theorem dX0_integrateModel_120 : decode cX0_integrateModel 120 = .ok (.aload_n 1, 1) := by decide +kernel
theorem dX0_integrateModel_121 : decode cX0_integrateModel 121 = .ok (.aload_n 0, 1) := by decide +kernel
theorem dX0_integrateModel_122 : decode cX0_integrateModel 122 = .ok (.getfield 22, 3) := by decide +kernel
theorem dX0_integrateModel_125 : decode cX0_integrateModel 125 = .ok (.invokevirtual 123, 3) := by decide +kernel
theorem dX0_integrateModel_128 : decode cX0_integrateModel 128 = .ok (.aload_n 1, 1) := by decide +kernel
theorem dX0_integrateModel_129 : decode cX0_integrateModel 129 = .ok (.invokevirtual 44, 3) := by decide +kernel
theorem dX0_integrateModel_132 : decode cX0_integrateModel 132 = .ok (.ireturn, 1) := by decide +kernel
theorem dX0_integrateTerm_0 : decode cX0_integrateTerm 0 = .ok (.iload_n 3, 1) := by decide +kernel
theorem dX0_integrateTerm_1 : decode cX0_integrateTerm 1 = .ok (.iload 4, 2) := by decide +kernel
theorem dX0_integrateTerm_3 : decode cX0_integrateTerm 3 = .ok (.invokestatic 138, 3) := by decide +kernel
theorem dX0_integrateTerm_6 : decode cX0_integrateTerm 6 = .ok (.istore 6, 2) := by decide +kernel
theorem dX0_integrateTerm_8 : decode cX0_integrateTerm 8 = .ok (.iload 6, 2) := by decide +kernel
theorem dX0_integrateTerm_10 : decode cX0_integrateTerm 10 = .ok (.ifCond .lt 19, 3) := by decide +kernel
theorem dX0_integrateTerm_13 : decode cX0_integrateTerm 13 = .ok (.aload_n 0, 1) := by decide +kernel
theorem dX0_integrateTerm_14 : decode cX0_integrateTerm 14 = .ok (.getfield 22, 3) := by decide +kernel
theorem dX0_integrateTerm_17 : decode cX0_integrateTerm 17 = .ok (.iload 6, 2) := by decide +kernel
theorem dX0_integrateTerm_19 : decode cX0_integrateTerm 19 = .ok (.lload_n 1, 1) := by decide +kernel
theorem dX0_integrateTerm_20 : decode cX0_integrateTerm 20 = .ok (.iload 5, 2) := by decide +kernel
theorem dX0_integrateTerm_22 : decode cX0_integrateTerm 22 = .ok (.i2l, 1) := by decide +kernel
theorem dX0_integrateTerm_23 : decode cX0_integrateTerm 23 = .ok (.invokevirtual 94, 3) := by decide +kernel
theorem dX0_integrateTerm_26 : decode cX0_integrateTerm 26 = .ok (.goto 65, 3) := by decide +kernel
theorem dX0_integrateTerm_29 : decode cX0_integrateTerm 29 = .ok (.iload 5, 2) := by decide +kernel
theorem dX0_integrateTerm_31 : decode cX0_integrateTerm 31 = .ok (.ifCond .le 60, 3) := by decide +kernel
theorem dX0_integrateTerm_34 : decode cX0_integrateTerm 34 = .ok (.iload_n 3, 1) := by decide +kernel
theorem dX0_integrateTerm_35 : decode cX0_integrateTerm 35 = .ok (.iload 4, 2) := by decide +kernel
theorem dX0_integrateTerm_37 : decode cX0_integrateTerm 37 = .ok (.invokestatic 60, 3) := by decide +kernel
theorem dX0_integrateTerm_40 : decode cX0_integrateTerm 40 = .ok (.istore 7, 2) := by decide +kernel
theorem dX0_integrateTerm_42 : decode cX0_integrateTerm 42 = .ok (.aload_n 0, 1) := by decide +kernel
theorem dX0_integrateTerm_43 : decode cX0_integrateTerm 43 = .ok (.getfield 22, 3) := by decide +kernel
theorem dX0_integrateTerm_46 : decode cX0_integrateTerm 46 = .ok (.dup, 1) := by decide +kernel
theorem dX0_integrateTerm_47 : decode cX0_integrateTerm 47 = .ok (.getfield 37, 3) := by decide +kernel
theorem dX0_integrateTerm_50 : decode cX0_integrateTerm 50 = .ok (.lload_n 1, 1) := by decide +kernel
theorem dX0_integrateTerm_51 : decode cX0_integrateTerm 51 = .ok (.iload 7, 2) := by decide +kernel
theorem dX0_integrateTerm_53 : decode cX0_integrateTerm 53 = .ok (.invokestatic 63, 3) := by decide +kernel
theorem dX0_integrateTerm_56 : decode cX0_integrateTerm 56 = .ok (.iload 5, 2) := by decide +kernel
theorem dX0_integrateTerm_58 : decode cX0_integrateTerm 58 = .ok (.i2l, 1) := by decide +kernel
theorem dX0_integrateTerm_59 : decode cX0_integrateTerm 59 = .ok (.invokestatic 83, 3) := by decide +kernel
theorem dX0_integrateTerm_62 : decode cX0_integrateTerm 62 = .ok (.ladd, 1) := by decide +kernel
theorem dX0_integrateTerm_63 : decode cX0_integrateTerm 63 = .ok (.putfield 37, 3) := by decide +kernel
theorem dX0_integrateTerm_66 : decode cX0_integrateTerm 66 = .ok (.aload_n 0, 1) := by decide +kernel
theorem dX0_integrateTerm_67 : decode cX0_integrateTerm 67 = .ok (.getfield 22, 3) := by decide +kernel
theorem dX0_integrateTerm_70 : decode cX0_integrateTerm 70 = .ok (.dup, 1) := by decide +kernel
theorem dX0_integrateTerm_71 : decode cX0_integrateTerm 71 = .ok (.getfield 41, 3) := by decide +kernel
theorem dX0_integrateTerm_74 : decode cX0_integrateTerm 74 = .ok (.lload_n 1, 1) := by decide +kernel
theorem dX0_integrateTerm_75 : decode cX0_integrateTerm 75 = .ok (.iload 7, 2) := by decide +kernel
theorem dX0_integrateTerm_77 : decode cX0_integrateTerm 77 = .ok (.invokestatic 67, 3) := by decide +kernel
theorem dX0_integrateTerm_80 : decode cX0_integrateTerm 80 = .ok (.lneg, 1) := by decide +kernel
theorem dX0_integrateTerm_81 : decode cX0_integrateTerm 81 = .ok (.iload 5, 2) := by decide +kernel
theorem dX0_integrateTerm_83 : decode cX0_integrateTerm 83 = .ok (.i2l, 1) := by decide +kernel
theorem dX0_integrateTerm_84 : decode cX0_integrateTerm 84 = .ok (.invokestatic 83, 3) := by decide +kernel
theorem dX0_integrateTerm_87 : decode cX0_integrateTerm 87 = .ok (.lsub, 1) := by decide +kernel
theorem dX0_integrateTerm_88 : decode cX0_integrateTerm 88 = .ok (.putfield 41, 3) := by decide +kernel
theorem dX0_integrateTerm_91 : decode cX0_integrateTerm 91 = .ok (.return_, 1) := by decide +kernel
theorem dX0_moveModels_0 : decode cX0_moveModels 0 = .ok (.aload_n 0, 1) := by decide +kernel
theorem dX0_moveModels_1 : decode cX0_moveModels 1 = .ok (.getfield 25, 3) := by decide +kernel
theorem dX0_moveModels_4 : decode cX0_moveModels 4 = .ok (.lload 5, 2) := by decide +kernel
theorem dX0_moveModels_6 : decode cX0_moveModels 6 = .ok (.invokevirtual 112, 3) := by decide +kernel
theorem dX0_moveModels_9 : decode cX0_moveModels 9 = .ok (.aload_n 0, 1) := by decide +kernel
theorem dX0_moveModels_10 : decode cX0_moveModels 10 = .ok (.aload_n 0, 1) := by decide +kernel
theorem dX0_moveModels_11 : decode cX0_moveModels 11 = .ok (.getfield 28, 3) := by decide +kernel
theorem dX0_moveModels_14 : decode cX0_moveModels 14 = .ok (.aload_n 3, 1) := by decide +kernel
theorem dX0_moveModels_15 : decode cX0_moveModels 15 = .ok (.aload_n 1, 1) := by decide +kernel
theorem dX0_moveModels_16 : decode cX0_moveModels 16 = .ok (.aload_n 2, 1) := by decide +kernel
theorem dX0_moveModels_17 : decode cX0_moveModels 17 = .ok (.invokevirtual 141, 3) := by decide +kernel
theorem dX0_moveModels_20 : decode cX0_moveModels 20 = .ok (.ifCond .eq 18, 3) := by decide +kernel
theorem dX0_moveModels_23 : decode cX0_moveModels 23 = .ok (.aload_n 0, 1) := by decide +kernel
theorem dX0_moveModels_24 : decode cX0_moveModels 24 = .ok (.aload_n 0, 1) := by decide +kernel
theorem dX0_moveModels_25 : decode cX0_moveModels 25 = .ok (.getfield 31, 3) := by decide +kernel
theorem dX0_moveModels_28 : decode cX0_moveModels 28 = .ok (.aload 4, 2) := by decide +kernel
theorem dX0_moveModels_30 : decode cX0_moveModels 30 = .ok (.aload_n 1, 1) := by decide +kernel
theorem dX0_moveModels_31 : decode cX0_moveModels 31 = .ok (.aload_n 2, 1) := by decide +kernel
theorem dX0_moveModels_32 : decode cX0_moveModels 32 = .ok (.invokevirtual 141, 3) := by decide +kernel
theorem dX0_moveModels_35 : decode cX0_moveModels 35 = .ok (.ifCond .ne 5, 3) := by decide +kernel
theorem dX0_moveModels_38 : decode cX0_moveModels 38 = .ok (.iconst 0, 1) := by decide +kernel
theorem dX0_moveModels_39 : decode cX0_moveModels 39 = .ok (.ireturn, 1) := by decide +kernel
theorem dX0_moveModels_40 : decode cX0_moveModels 40 = .ok (.aload_n 0, 1) := by decide +kernel
theorem dX0_moveModels_41 : decode cX0_moveModels 41 = .ok (.aload_n 0, 1) := by decide +kernel
theorem dX0_moveModels_42 : decode cX0_moveModels 42 = .ok (.getfield 28, 3) := by decide +kernel
theorem dX0_moveModels_45 : decode cX0_moveModels 45 = .ok (.aload_n 0, 1) := by decide +kernel
theorem dX0_moveModels_46 : decode cX0_moveModels 46 = .ok (.getfield 25, 3) := by decide +kernel
theorem dX0_moveModels_49 : decode cX0_moveModels 49 = .ok (.aload_n 0, 1) := by decide +kernel
theorem dX0_moveModels_50 : decode cX0_moveModels 50 = .ok (.getfield 28, 3) := by decide +kernel
theorem dX0_moveModels_53 : decode cX0_moveModels 53 = .ok (.invokevirtual 116, 3) := by decide +kernel
theorem dX0_moveModels_56 : decode cX0_moveModels 56 = .ok (.ifCond .eq 22, 3) := by decide +kernel
theorem dX0_moveModels_59 : decode cX0_moveModels 59 = .ok (.aload_n 0, 1) := by decide +kernel
theorem dX0_moveModels_60 : decode cX0_moveModels 60 = .ok (.aload_n 0, 1) := by decide +kernel
theorem dX0_moveModels_61 : decode cX0_moveModels 61 = .ok (.getfield 31, 3) := by decide +kernel
theorem dX0_moveModels_64 : decode cX0_moveModels 64 = .ok (.aload_n 0, 1) := by decide +kernel
theorem dX0_moveModels_65 : decode cX0_moveModels 65 = .ok (.getfield 25, 3) := by decide +kernel
theorem dX0_moveModels_68 : decode cX0_moveModels 68 = .ok (.aload_n 0, 1) := by decide +kernel
theorem dX0_moveModels_69 : decode cX0_moveModels 69 = .ok (.getfield 31, 3) := by decide +kernel
theorem dX0_moveModels_72 : decode cX0_moveModels 72 = .ok (.invokevirtual 116, 3) := by decide +kernel
theorem dX0_moveModels_75 : decode cX0_moveModels 75 = .ok (.ifCond .ne 5, 3) := by decide +kernel
theorem dX0_moveModels_78 : decode cX0_moveModels 78 = .ok (.iconst 0, 1) := by decide +kernel
theorem dX0_moveModels_79 : decode cX0_moveModels 79 = .ok (.ireturn, 1) := by decide +kernel
theorem dX0_moveModels_80 : decode cX0_moveModels 80 = .ok (.aload_n 0, 1) := by decide +kernel
theorem dX0_moveModels_81 : decode cX0_moveModels 81 = .ok (.aload_n 0, 1) := by decide +kernel
theorem dX0_moveModels_82 : decode cX0_moveModels 82 = .ok (.getfield 28, 3) := by decide +kernel
theorem dX0_moveModels_85 : decode cX0_moveModels 85 = .ok (.aload_n 1, 1) := by decide +kernel
theorem dX0_moveModels_86 : decode cX0_moveModels 86 = .ok (.aload_n 0, 1) := by decide +kernel
theorem dX0_moveModels_87 : decode cX0_moveModels 87 = .ok (.getfield 28, 3) := by decide +kernel
theorem dX0_moveModels_90 : decode cX0_moveModels 90 = .ok (.invokevirtual 120, 3) := by decide +kernel
theorem dX0_moveModels_93 : decode cX0_moveModels 93 = .ok (.ifCond .eq 19, 3) := by decide +kernel
theorem dX0_moveModels_96 : decode cX0_moveModels 96 = .ok (.aload_n 0, 1) := by decide +kernel
theorem dX0_moveModels_97 : decode cX0_moveModels 97 = .ok (.aload_n 0, 1) := by decide +kernel
theorem dX0_moveModels_98 : decode cX0_moveModels 98 = .ok (.getfield 31, 3) := by decide +kernel
theorem dX0_moveModels_101 : decode cX0_moveModels 101 = .ok (.aload_n 2, 1) := by decide +kernel
theorem dX0_moveModels_102 : decode cX0_moveModels 102 = .ok (.aload_n 0, 1) := by decide +kernel
theorem dX0_moveModels_103 : decode cX0_moveModels 103 = .ok (.getfield 31, 3) := by decide +kernel
theorem dX0_moveModels_106 : decode cX0_moveModels 106 = .ok (.invokevirtual 120, 3) := by decide +kernel
theorem dX0_moveModels_109 : decode cX0_moveModels 109 = .ok (.ifCond .ne 5, 3) := by decide +kernel
theorem dX0_moveModels_112 : decode cX0_moveModels 112 = .ok (.iconst 0, 1) := by decide +kernel
theorem dX0_moveModels_113 : decode cX0_moveModels 113 = .ok (.ireturn, 1) := by decide +kernel
theorem dX0_moveModels_114 : decode cX0_moveModels 114 = .ok (.aload_n 1, 1) := by decide +kernel
theorem dX0_moveModels_115 : decode cX0_moveModels 115 = .ok (.aload_n 0, 1) := by decide +kernel
theorem dX0_moveModels_116 : decode cX0_moveModels 116 = .ok (.getfield 28, 3) := by decide +kernel
theorem dX0_moveModels_119 : decode cX0_moveModels 119 = .ok (.invokevirtual 123, 3) := by decide +kernel
theorem dX0_moveModels_122 : decode cX0_moveModels 122 = .ok (.aload_n 2, 1) := by decide +kernel
theorem dX0_moveModels_123 : decode cX0_moveModels 123 = .ok (.aload_n 0, 1) := by decide +kernel
theorem dX0_moveModels_124 : decode cX0_moveModels 124 = .ok (.getfield 31, 3) := by decide +kernel
theorem dX0_moveModels_127 : decode cX0_moveModels 127 = .ok (.invokevirtual 123, 3) := by decide +kernel
theorem dX0_moveModels_130 : decode cX0_moveModels 130 = .ok (.iconst 1, 1) := by decide +kernel
theorem dX0_moveModels_131 : decode cX0_moveModels 131 = .ok (.ireturn, 1) := by decide +kernel
theorem dX1_init_0 : decode cX1_init 0 = .ok (.aload_n 0, 1) := by decide +kernel
theorem dX1_init_1 : decode cX1_init 1 = .ok (.invokespecial 3, 3) := by decide +kernel
theorem dX1_init_4 : decode cX1_init 4 = .ok (.aload_n 0, 1) := by decide +kernel
theorem dX1_init_5 : decode cX1_init 5 = .ok (.bipush 8, 2) := by decide +kernel
theorem dX1_init_7 : decode cX1_init 7 = .ok (.anewarray 9, 3) := by decide +kernel
theorem dX1_init_10 : decode cX1_init 10 = .ok (.putfield 11, 3) := by decide +kernel
theorem dX1_init_13 : decode cX1_init 13 = .ok (.iconst 0, 1) := by decide +kernel
theorem dX1_init_14 : decode cX1_init 14 = .ok (.istore_n 1, 1) := by decide +kernel
theorem dX1_init_15 : decode cX1_init 15 = .ok (.iload_n 1, 1) := by decide +kernel
theorem dX1_init_16 : decode cX1_init 16 = .ok (.bipush 8, 2) := by decide +kernel
theorem dX1_init_18 : decode cX1_init 18 = .ok (.if_icmp .ge 22, 3) := by decide +kernel
theorem dX1_init_21 : decode cX1_init 21 = .ok (.aload_n 0, 1) := by decide +kernel
theorem dX1_init_22 : decode cX1_init 22 = .ok (.getfield 11, 3) := by decide +kernel
theorem dX1_init_25 : decode cX1_init 25 = .ok (.iload_n 1, 1) := by decide +kernel
theorem dX1_init_26 : decode cX1_init 26 = .ok (.new 9, 3) := by decide +kernel
theorem dX1_init_29 : decode cX1_init 29 = .ok (.dup, 1) := by decide +kernel
theorem dX1_init_30 : decode cX1_init 30 = .ok (.invokespecial 17, 3) := by decide +kernel
theorem dX1_init_33 : decode cX1_init 33 = .ok (.aastore, 1) := by decide +kernel
theorem dX1_init_34 : decode cX1_init 34 = .ok (.iinc 1 1, 3) := by decide +kernel
theorem dX1_init_37 : decode cX1_init 37 = .ok (.goto (-22), 3) := by decide +kernel
theorem dX1_init_40 : decode cX1_init 40 = .ok (.return_, 1) := by decide +kernel
theorem dX1_remember_0 : decode cX1_remember 0 = .ok (.aload_n 0, 1) := by decide +kernel
theorem dX1_remember_1 : decode cX1_remember 1 = .ok (.getfield 18, 3) := by decide +kernel
theorem dX1_remember_4 : decode cX1_remember 4 = .ok (.ifCond .lt 12, 3) := by decide +kernel
theorem dX1_remember_7 : decode cX1_remember 7 = .ok (.aload_n 0, 1) := by decide +kernel
theorem dX1_remember_8 : decode cX1_remember 8 = .ok (.getfield 18, 3) := by decide +kernel
theorem dX1_remember_11 : decode cX1_remember 11 = .ok (.bipush 8, 2) := by decide +kernel
theorem dX1_remember_13 : decode cX1_remember 13 = .ok (.if_icmp .lt 8, 3) := by decide +kernel
theorem dX1_remember_16 : decode cX1_remember 16 = .ok (.aload_n 0, 1) := by decide +kernel
theorem dX1_remember_17 : decode cX1_remember 17 = .ok (.iconst 0, 1) := by decide +kernel
theorem dX1_remember_18 : decode cX1_remember 18 = .ok (.putfield 18, 3) := by decide +kernel
theorem dX1_remember_21 : decode cX1_remember 21 = .ok (.aload_n 0, 1) := by decide +kernel
theorem dX1_remember_22 : decode cX1_remember 22 = .ok (.getfield 11, 3) := by decide +kernel
theorem dX1_remember_25 : decode cX1_remember 25 = .ok (.aload_n 0, 1) := by decide +kernel
theorem dX1_remember_26 : decode cX1_remember 26 = .ok (.getfield 18, 3) := by decide +kernel
theorem dX1_remember_29 : decode cX1_remember 29 = .ok (.aaload, 1) := by decide +kernel
theorem dX1_remember_30 : decode cX1_remember 30 = .ok (.aload_n 1, 1) := by decide +kernel
theorem dX1_remember_31 : decode cX1_remember 31 = .ok (.invokevirtual 22, 3) := by decide +kernel
theorem dX1_remember_34 : decode cX1_remember 34 = .ok (.aload_n 0, 1) := by decide +kernel
theorem dX1_remember_35 : decode cX1_remember 35 = .ok (.aload_n 0, 1) := by decide +kernel
theorem dX1_remember_36 : decode cX1_remember 36 = .ok (.getfield 18, 3) := by decide +kernel
theorem dX1_remember_39 : decode cX1_remember 39 = .ok (.iconst 1, 1) := by decide +kernel
theorem dX1_remember_40 : decode cX1_remember 40 = .ok (.iadd, 1) := by decide +kernel
theorem dX1_remember_41 : decode cX1_remember 41 = .ok (.bipush 8, 2) := by decide +kernel
theorem dX1_remember_43 : decode cX1_remember 43 = .ok (.if_icmp .ne 7, 3) := by decide +kernel
theorem dX1_remember_46 : decode cX1_remember 46 = .ok (.iconst 0, 1) := by decide +kernel
theorem dX1_remember_47 : decode cX1_remember 47 = .ok (.goto 9, 3) := by decide +kernel
theorem dX1_remember_50 : decode cX1_remember 50 = .ok (.aload_n 0, 1) := by decide +kernel
theorem dX1_remember_51 : decode cX1_remember 51 = .ok (.getfield 18, 3) := by decide +kernel
theorem dX1_remember_54 : decode cX1_remember 54 = .ok (.iconst 1, 1) := by decide +kernel
theorem dX1_remember_55 : decode cX1_remember 55 = .ok (.iadd, 1) := by decide +kernel
theorem dX1_remember_56 : decode cX1_remember 56 = .ok (.putfield 18, 3) := by decide +kernel
theorem dX1_remember_59 : decode cX1_remember 59 = .ok (.aload_n 0, 1) := by decide +kernel
theorem dX1_remember_60 : decode cX1_remember 60 = .ok (.aload_n 0, 1) := by decide +kernel
theorem dX1_remember_61 : decode cX1_remember 61 = .ok (.getfield 26, 3) := by decide +kernel
theorem dX1_remember_64 : decode cX1_remember 64 = .ok (.iconst 1, 1) := by decide +kernel
theorem dX1_remember_65 : decode cX1_remember 65 = .ok (.iadd, 1) := by decide +kernel
theorem dX1_remember_66 : decode cX1_remember 66 = .ok (.bipush 8, 2) := by decide +kernel
theorem dX1_remember_68 : decode cX1_remember 68 = .ok (.invokestatic 29, 3) := by decide +kernel
theorem dX1_remember_71 : decode cX1_remember 71 = .ok (.putfield 26, 3) := by decide +kernel
theorem dX1_remember_74 : decode cX1_remember 74 = .ok (.return_, 1) := by decide +kernel
theorem dX1_restore_0 : decode cX1_restore 0 = .ok (.aload_n 0, 1) := by decide +kernel
theorem dX1_restore_1 : decode cX1_restore 1 = .ok (.getfield 26, 3) := by decide +kernel
theorem dX1_restore_4 : decode cX1_restore 4 = .ok (.ifCond .ne 5, 3) := by decide +kernel
theorem dX1_restore_7 : decode cX1_restore 7 = .ok (.iconst 0, 1) := by decide +kernel
theorem dX1_restore_8 : decode cX1_restore 8 = .ok (.ireturn, 1) := by decide +kernel
theorem dX1_restore_9 : decode cX1_restore 9 = .ok (.aload_n 0, 1) := by decide +kernel
theorem dX1_restore_10 : decode cX1_restore 10 = .ok (.getfield 18, 3) := by decide +kernel
theorem dX1_restore_13 : decode cX1_restore 13 = .ok (.ifCond .ne 8, 3) := by decide +kernel
theorem dX1_restore_16 : decode cX1_restore 16 = .ok (.bipush 7, 2) := by decide +kernel
theorem dX1_restore_18 : decode cX1_restore 18 = .ok (.goto 9, 3) := by decide +kernel
theorem dX1_restore_21 : decode cX1_restore 21 = .ok (.aload_n 0, 1) := by decide +kernel
theorem dX1_restore_22 : decode cX1_restore 22 = .ok (.getfield 18, 3) := by decide +kernel
theorem dX1_restore_25 : decode cX1_restore 25 = .ok (.iconst 1, 1) := by decide +kernel
theorem dX1_restore_26 : decode cX1_restore 26 = .ok (.isub, 1) := by decide +kernel
theorem dX1_restore_27 : decode cX1_restore 27 = .ok (.istore_n 2, 1) := by decide +kernel
theorem dX1_restore_28 : decode cX1_restore 28 = .ok (.iload_n 2, 1) := by decide +kernel
theorem dX1_restore_29 : decode cX1_restore 29 = .ok (.ifCond .lt 9, 3) := by decide +kernel
theorem dX1_restore_32 : decode cX1_restore 32 = .ok (.iload_n 2, 1) := by decide +kernel
theorem dX1_restore_33 : decode cX1_restore 33 = .ok (.bipush 8, 2) := by decide +kernel
theorem dX1_restore_35 : decode cX1_restore 35 = .ok (.if_icmp .lt 5, 3) := by decide +kernel
theorem dX1_restore_38 : decode cX1_restore 38 = .ok (.iconst 0, 1) := by decide +kernel
theorem dX1_restore_39 : decode cX1_restore 39 = .ok (.ireturn, 1) := by decide +kernel
theorem dX1_restore_40 : decode cX1_restore 40 = .ok (.aload_n 1, 1) := by decide +kernel
theorem dX1_restore_41 : decode cX1_restore 41 = .ok (.aload_n 0, 1) := by decide +kernel
theorem dX1_restore_42 : decode cX1_restore 42 = .ok (.getfield 11, 3) := by decide +kernel
theorem dX1_restore_45 : decode cX1_restore 45 = .ok (.iload_n 2, 1) := by decide +kernel
theorem dX1_restore_46 : decode cX1_restore 46 = .ok (.aaload, 1) := by decide +kernel
theorem dX1_restore_47 : decode cX1_restore 47 = .ok (.invokevirtual 22, 3) := by decide +kernel
theorem dX1_restore_50 : decode cX1_restore 50 = .ok (.aload_n 0, 1) := by decide +kernel
theorem dX1_restore_51 : decode cX1_restore 51 = .ok (.iload_n 2, 1) := by decide +kernel
theorem dX1_restore_52 : decode cX1_restore 52 = .ok (.putfield 18, 3) := by decide +kernel
theorem dX1_restore_55 : decode cX1_restore 55 = .ok (.aload_n 0, 1) := by decide +kernel
theorem dX1_restore_56 : decode cX1_restore 56 = .ok (.dup, 1) := by decide +kernel
theorem dX1_restore_57 : decode cX1_restore 57 = .ok (.getfield 26, 3) := by decide +kernel
theorem dX1_restore_60 : decode cX1_restore 60 = .ok (.iconst 1, 1) := by decide +kernel
theorem dX1_restore_61 : decode cX1_restore 61 = .ok (.isub, 1) := by decide +kernel
theorem dX1_restore_62 : decode cX1_restore 62 = .ok (.putfield 26, 3) := by decide +kernel
theorem dX1_restore_65 : decode cX1_restore 65 = .ok (.iconst 1, 1) := by decide +kernel
theorem dX1_restore_66 : decode cX1_restore 66 = .ok (.ireturn, 1) := by decide +kernel
theorem dX2_init_0 : decode cX2_init 0 = .ok (.aload_n 0, 1) := by decide +kernel
theorem dX2_init_1 : decode cX2_init 1 = .ok (.invokespecial 3, 3) := by decide +kernel
theorem dX2_init_4 : decode cX2_init 4 = .ok (.aload_n 0, 1) := by decide +kernel
theorem dX2_init_5 : decode cX2_init 5 = .ok (.bipush 10, 2) := by decide +kernel
theorem dX2_init_7 : decode cX2_init 7 = .ok (.newarray .long, 2) := by decide +kernel
theorem dX2_init_9 : decode cX2_init 9 = .ok (.putfield 9, 3) := by decide +kernel
theorem dX2_init_12 : decode cX2_init 12 = .ok (.return_, 1) := by decide +kernel
theorem dX2_becomeConstant_0 : decode cX2_becomeConstant 0 = .ok (.aload_n 0, 1) := by decide +kernel
theorem dX2_becomeConstant_1 : decode cX2_becomeConstant 1 = .ok (.getfield 9, 3) := by decide +kernel
theorem dX2_becomeConstant_4 : decode cX2_becomeConstant 4 = .ok (.lconst 0, 1) := by decide +kernel
theorem dX2_becomeConstant_5 : decode cX2_becomeConstant 5 = .ok (.invokestatic 15, 3) := by decide +kernel
theorem dX2_becomeConstant_8 : decode cX2_becomeConstant 8 = .ok (.aload_n 0, 1) := by decide +kernel
theorem dX2_becomeConstant_9 : decode cX2_becomeConstant 9 = .ok (.getfield 9, 3) := by decide +kernel
theorem dX2_becomeConstant_12 : decode cX2_becomeConstant 12 = .ok (.iconst 0, 1) := by decide +kernel
theorem dX2_becomeConstant_13 : decode cX2_becomeConstant 13 = .ok (.lload_n 1, 1) := by decide +kernel
theorem dX2_becomeConstant_14 : decode cX2_becomeConstant 14 = .ok (.lastore, 1) := by decide +kernel
theorem dX2_becomeConstant_15 : decode cX2_becomeConstant 15 = .ok (.aload_n 0, 1) := by decide +kernel
theorem dX2_becomeConstant_16 : decode cX2_becomeConstant 16 = .ok (.lconst 0, 1) := by decide +kernel
theorem dX2_becomeConstant_17 : decode cX2_becomeConstant 17 = .ok (.putfield 21, 3) := by decide +kernel
theorem dX2_becomeConstant_20 : decode cX2_becomeConstant 20 = .ok (.aload_n 0, 1) := by decide +kernel
theorem dX2_becomeConstant_21 : decode cX2_becomeConstant 21 = .ok (.lconst 0, 1) := by decide +kernel
theorem dX2_becomeConstant_22 : decode cX2_becomeConstant 22 = .ok (.putfield 25, 3) := by decide +kernel
theorem dX2_becomeConstant_25 : decode cX2_becomeConstant 25 = .ok (.return_, 1) := by decide +kernel
theorem dX2_becomeVariable_0 : decode cX2_becomeVariable 0 = .ok (.aload_n 0, 1) := by decide +kernel
theorem dX2_becomeVariable_1 : decode cX2_becomeVariable 1 = .ok (.lconst 0, 1) := by decide +kernel
theorem dX2_becomeVariable_2 : decode cX2_becomeVariable 2 = .ok (.invokevirtual 28, 3) := by decide +kernel
theorem dX2_becomeVariable_5 : decode cX2_becomeVariable 5 = .ok (.aload_n 0, 1) := by decide +kernel
theorem dX2_becomeVariable_6 : decode cX2_becomeVariable 6 = .ok (.iload_n 1, 1) := by decide +kernel
theorem dX2_becomeVariable_7 : decode cX2_becomeVariable 7 = .ok (.ldc2_w 32, 3) := by decide +kernel
theorem dX2_becomeVariable_10 : decode cX2_becomeVariable 10 = .ok (.invokevirtual 34, 3) := by decide +kernel
theorem dX2_becomeVariable_13 : decode cX2_becomeVariable 13 = .ok (.return_, 1) := by decide +kernel
theorem dX2_copyFrom_0 : decode cX2_copyFrom 0 = .ok (.aload_n 1, 1) := by decide +kernel
theorem dX2_copyFrom_1 : decode cX2_copyFrom 1 = .ok (.getfield 9, 3) := by decide +kernel
theorem dX2_copyFrom_4 : decode cX2_copyFrom 4 = .ok (.iconst 0, 1) := by decide +kernel
theorem dX2_copyFrom_5 : decode cX2_copyFrom 5 = .ok (.aload_n 0, 1) := by decide +kernel
theorem dX2_copyFrom_6 : decode cX2_copyFrom 6 = .ok (.getfield 9, 3) := by decide +kernel
theorem dX2_copyFrom_9 : decode cX2_copyFrom 9 = .ok (.iconst 0, 1) := by decide +kernel
theorem dX2_copyFrom_10 : decode cX2_copyFrom 10 = .ok (.bipush 10, 2) := by decide +kernel
theorem dX2_copyFrom_12 : decode cX2_copyFrom 12 = .ok (.invokestatic 38, 3) := by decide +kernel
theorem dX2_copyFrom_15 : decode cX2_copyFrom 15 = .ok (.aload_n 0, 1) := by decide +kernel
theorem dX2_copyFrom_16 : decode cX2_copyFrom 16 = .ok (.aload_n 1, 1) := by decide +kernel
theorem dX2_copyFrom_17 : decode cX2_copyFrom 17 = .ok (.getfield 21, 3) := by decide +kernel
theorem dX2_copyFrom_20 : decode cX2_copyFrom 20 = .ok (.putfield 21, 3) := by decide +kernel
theorem dX2_copyFrom_23 : decode cX2_copyFrom 23 = .ok (.aload_n 0, 1) := by decide +kernel
theorem dX2_copyFrom_24 : decode cX2_copyFrom 24 = .ok (.aload_n 1, 1) := by decide +kernel
theorem dX2_copyFrom_25 : decode cX2_copyFrom 25 = .ok (.getfield 25, 3) := by decide +kernel
theorem dX2_copyFrom_28 : decode cX2_copyFrom 28 = .ok (.putfield 25, 3) := by decide +kernel
theorem dX2_copyFrom_31 : decode cX2_copyFrom 31 = .ok (.return_, 1) := by decide +kernel
theorem dX2_coefficientAt_0 : decode cX2_coefficientAt 0 = .ok (.iload_n 1, 1) := by decide +kernel
theorem dX2_coefficientAt_1 : decode cX2_coefficientAt 1 = .ok (.ifCond .lt 18, 3) := by decide +kernel
theorem dX2_coefficientAt_4 : decode cX2_coefficientAt 4 = .ok (.iload_n 1, 1) := by decide +kernel
theorem dX2_coefficientAt_5 : decode cX2_coefficientAt 5 = .ok (.bipush 10, 2) := by decide +kernel
theorem dX2_coefficientAt_7 : decode cX2_coefficientAt 7 = .ok (.if_icmp .ge 12, 3) := by decide +kernel
theorem dX2_coefficientAt_10 : decode cX2_coefficientAt 10 = .ok (.aload_n 0, 1) := by decide +kernel
theorem dX2_coefficientAt_11 : decode cX2_coefficientAt 11 = .ok (.getfield 9, 3) := by decide +kernel
theorem dX2_coefficientAt_14 : decode cX2_coefficientAt 14 = .ok (.iload_n 1, 1) := by decide +kernel
theorem dX2_coefficientAt_15 : decode cX2_coefficientAt 15 = .ok (.laload, 1) := by decide +kernel
theorem dX2_coefficientAt_16 : decode cX2_coefficientAt 16 = .ok (.goto 4, 3) := by decide +kernel
theorem dX2_coefficientAt_19 : decode cX2_coefficientAt 19 = .ok (.lconst 0, 1) := by decide +kernel
theorem dX2_coefficientAt_20 : decode cX2_coefficientAt 20 = .ok (.lreturn, 1) := by decide +kernel
theorem dX2_setCoefficientAt_0 : decode cX2_setCoefficientAt 0 = .ok (.iload_n 1, 1) := by decide +kernel
theorem dX2_setCoefficientAt_1 : decode cX2_setCoefficientAt 1 = .ok (.ifCond .lt 16, 3) := by decide +kernel
theorem dX2_setCoefficientAt_4 : decode cX2_setCoefficientAt 4 = .ok (.iload_n 1, 1) := by decide +kernel
theorem dX2_setCoefficientAt_5 : decode cX2_setCoefficientAt 5 = .ok (.bipush 10, 2) := by decide +kernel
theorem dX2_setCoefficientAt_7 : decode cX2_setCoefficientAt 7 = .ok (.if_icmp .ge 10, 3) := by decide +kernel
theorem dX2_setCoefficientAt_10 : decode cX2_setCoefficientAt 10 = .ok (.aload_n 0, 1) := by decide +kernel
theorem dX2_setCoefficientAt_11 : decode cX2_setCoefficientAt 11 = .ok (.getfield 9, 3) := by decide +kernel
theorem dX2_setCoefficientAt_14 : decode cX2_setCoefficientAt 14 = .ok (.iload_n 1, 1) := by decide +kernel
theorem dX2_setCoefficientAt_15 : decode cX2_setCoefficientAt 15 = .ok (.lload_n 2, 1) := by decide +kernel
theorem dX2_setCoefficientAt_16 : decode cX2_setCoefficientAt 16 = .ok (.lastore, 1) := by decide +kernel
theorem dX2_setCoefficientAt_17 : decode cX2_setCoefficientAt 17 = .ok (.return_, 1) := by decide +kernel
theorem dX2_putQuotient_0 : decode cX2_putQuotient 0 = .ok (.iload_n 1, 1) := by decide +kernel
theorem dX2_putQuotient_1 : decode cX2_putQuotient 1 = .ok (.ifCond .lt 16, 3) := by decide +kernel
theorem dX2_putQuotient_4 : decode cX2_putQuotient 4 = .ok (.iload_n 1, 1) := by decide +kernel
theorem dX2_putQuotient_5 : decode cX2_putQuotient 5 = .ok (.bipush 10, 2) := by decide +kernel
theorem dX2_putQuotient_7 : decode cX2_putQuotient 7 = .ok (.if_icmp .ge 10, 3) := by decide +kernel
theorem dX2_putQuotient_10 : decode cX2_putQuotient 10 = .ok (.lload 4, 2) := by decide +kernel
theorem dX2_putQuotient_12 : decode cX2_putQuotient 12 = .ok (.lconst 0, 1) := by decide +kernel
theorem dX2_putQuotient_13 : decode cX2_putQuotient 13 = .ok (.lcmp, 1) := by decide +kernel
theorem dX2_putQuotient_14 : decode cX2_putQuotient 14 = .ok (.ifCond .gt 4, 3) := by decide +kernel
theorem dX2_putQuotient_17 : decode cX2_putQuotient 17 = .ok (.return_, 1) := by decide +kernel
theorem dX2_putQuotient_18 : decode cX2_putQuotient 18 = .ok (.lload_n 2, 1) := by decide +kernel
theorem dX2_putQuotient_19 : decode cX2_putQuotient 19 = .ok (.lload 4, 2) := by decide +kernel
theorem dX2_putQuotient_21 : decode cX2_putQuotient 21 = .ok (.invokestatic 44, 3) := by decide +kernel
theorem dX2_putQuotient_24 : decode cX2_putQuotient 24 = .ok (.lstore 6, 2) := by decide +kernel
theorem dX2_putQuotient_26 : decode cX2_putQuotient 26 = .ok (.aload_n 0, 1) := by decide +kernel
theorem dX2_putQuotient_27 : decode cX2_putQuotient 27 = .ok (.getfield 9, 3) := by decide +kernel
theorem dX2_putQuotient_30 : decode cX2_putQuotient 30 = .ok (.iload_n 1, 1) := by decide +kernel
theorem dX2_putQuotient_31 : decode cX2_putQuotient 31 = .ok (.lload 6, 2) := by decide +kernel
theorem dX2_putQuotient_33 : decode cX2_putQuotient 33 = .ok (.lastore, 1) := by decide +kernel
theorem dX2_putQuotient_34 : decode cX2_putQuotient 34 = .ok (.lload 6, 2) := by decide +kernel
theorem dX2_putQuotient_36 : decode cX2_putQuotient 36 = .ok (.lload 4, 2) := by decide +kernel
theorem dX2_putQuotient_38 : decode cX2_putQuotient 38 = .ok (.lmul, 1) := by decide +kernel
theorem dX2_putQuotient_39 : decode cX2_putQuotient 39 = .ok (.lload_n 2, 1) := by decide +kernel
theorem dX2_putQuotient_40 : decode cX2_putQuotient 40 = .ok (.lcmp, 1) := by decide +kernel
theorem dX2_putQuotient_41 : decode cX2_putQuotient 41 = .ok (.ifCond .eq 32, 3) := by decide +kernel
theorem dX2_putQuotient_44 : decode cX2_putQuotient 44 = .ok (.aload_n 0, 1) := by decide +kernel
theorem dX2_putQuotient_45 : decode cX2_putQuotient 45 = .ok (.dup, 1) := by decide +kernel
theorem dX2_putQuotient_46 : decode cX2_putQuotient 46 = .ok (.getfield 21, 3) := by decide +kernel
theorem dX2_putQuotient_49 : decode cX2_putQuotient 49 = .ok (.getstatic 50, 3) := by decide +kernel
theorem dX2_putQuotient_52 : decode cX2_putQuotient 52 = .ok (.iload_n 1, 1) := by decide +kernel
theorem dX2_putQuotient_53 : decode cX2_putQuotient 53 = .ok (.iaload, 1) := by decide +kernel
theorem dX2_putQuotient_54 : decode cX2_putQuotient 54 = .ok (.iconst 0, 1) := by decide +kernel
theorem dX2_putQuotient_55 : decode cX2_putQuotient 55 = .ok (.invokestatic 54, 3) := by decide +kernel
theorem dX2_putQuotient_58 : decode cX2_putQuotient 58 = .ok (.i2l, 1) := by decide +kernel
theorem dX2_putQuotient_59 : decode cX2_putQuotient 59 = .ok (.ladd, 1) := by decide +kernel
theorem dX2_putQuotient_60 : decode cX2_putQuotient 60 = .ok (.putfield 21, 3) := by decide +kernel
theorem dX2_putQuotient_63 : decode cX2_putQuotient 63 = .ok (.aload_n 0, 1) := by decide +kernel
theorem dX2_putQuotient_64 : decode cX2_putQuotient 64 = .ok (.dup, 1) := by decide +kernel
theorem dX2_putQuotient_65 : decode cX2_putQuotient 65 = .ok (.getfield 25, 3) := by decide +kernel
theorem dX2_putQuotient_68 : decode cX2_putQuotient 68 = .ok (.lconst 1, 1) := by decide +kernel
theorem dX2_putQuotient_69 : decode cX2_putQuotient 69 = .ok (.ladd, 1) := by decide +kernel
theorem dX2_putQuotient_70 : decode cX2_putQuotient 70 = .ok (.putfield 25, 3) := by decide +kernel
theorem dX2_putQuotient_73 : decode cX2_putQuotient 73 = .ok (.return_, 1) := by decide +kernel
theorem dX2_widen_0 : decode cX2_widen 0 = .ok (.aload_n 0, 1) := by decide +kernel
theorem dX2_widen_1 : decode cX2_widen 1 = .ok (.dup, 1) := by decide +kernel
theorem dX2_widen_2 : decode cX2_widen 2 = .ok (.getfield 21, 3) := by decide +kernel
theorem dX2_widen_5 : decode cX2_widen 5 = .ok (.lload_n 1, 1) := by decide +kernel
theorem dX2_widen_6 : decode cX2_widen 6 = .ok (.lsub, 1) := by decide +kernel
theorem dX2_widen_7 : decode cX2_widen 7 = .ok (.putfield 21, 3) := by decide +kernel
theorem dX2_widen_10 : decode cX2_widen 10 = .ok (.aload_n 0, 1) := by decide +kernel
theorem dX2_widen_11 : decode cX2_widen 11 = .ok (.dup, 1) := by decide +kernel
theorem dX2_widen_12 : decode cX2_widen 12 = .ok (.getfield 25, 3) := by decide +kernel
theorem dX2_widen_15 : decode cX2_widen 15 = .ok (.lload_n 1, 1) := by decide +kernel
theorem dX2_widen_16 : decode cX2_widen 16 = .ok (.ladd, 1) := by decide +kernel
theorem dX2_widen_17 : decode cX2_widen 17 = .ok (.putfield 25, 3) := by decide +kernel
theorem dX2_widen_20 : decode cX2_widen 20 = .ok (.return_, 1) := by decide +kernel
theorem dX2_width_0 : decode cX2_width 0 = .ok (.aload_n 0, 1) := by decide +kernel
theorem dX2_width_1 : decode cX2_width 1 = .ok (.getfield 25, 3) := by decide +kernel
theorem dX2_width_4 : decode cX2_width 4 = .ok (.aload_n 0, 1) := by decide +kernel
theorem dX2_width_5 : decode cX2_width 5 = .ok (.getfield 21, 3) := by decide +kernel
theorem dX2_width_8 : decode cX2_width 8 = .ok (.lsub, 1) := by decide +kernel
theorem dX2_width_9 : decode cX2_width 9 = .ok (.l2i, 1) := by decide +kernel
theorem dX2_width_10 : decode cX2_width 10 = .ok (.ireturn, 1) := by decide +kernel
theorem dX2_fits_0 : decode cX2_fits 0 = .ok (.iconst 0, 1) := by decide +kernel
theorem dX2_fits_1 : decode cX2_fits 1 = .ok (.istore_n 1, 1) := by decide +kernel
theorem dX2_fits_2 : decode cX2_fits 2 = .ok (.iload_n 1, 1) := by decide +kernel
theorem dX2_fits_3 : decode cX2_fits 3 = .ok (.bipush 10, 2) := by decide +kernel
theorem dX2_fits_5 : decode cX2_fits 5 = .ok (.if_icmp .ge 37, 3) := by decide +kernel
theorem dX2_fits_8 : decode cX2_fits 8 = .ok (.aload_n 0, 1) := by decide +kernel
theorem dX2_fits_9 : decode cX2_fits 9 = .ok (.getfield 9, 3) := by decide +kernel
theorem dX2_fits_12 : decode cX2_fits 12 = .ok (.iload_n 1, 1) := by decide +kernel
theorem dX2_fits_13 : decode cX2_fits 13 = .ok (.laload, 1) := by decide +kernel
theorem dX2_fits_14 : decode cX2_fits 14 = .ok (.ldc2_w 58, 3) := by decide +kernel
theorem dX2_fits_17 : decode cX2_fits 17 = .ok (.lcmp, 1) := by decide +kernel
theorem dX2_fits_18 : decode cX2_fits 18 = .ok (.ifCond .lt 16, 3) := by decide +kernel
theorem dX2_fits_21 : decode cX2_fits 21 = .ok (.aload_n 0, 1) := by decide +kernel
theorem dX2_fits_22 : decode cX2_fits 22 = .ok (.getfield 9, 3) := by decide +kernel
theorem dX2_fits_25 : decode cX2_fits 25 = .ok (.iload_n 1, 1) := by decide +kernel
theorem dX2_fits_26 : decode cX2_fits 26 = .ok (.laload, 1) := by decide +kernel
theorem dX2_fits_27 : decode cX2_fits 27 = .ok (.ldc2_w 60, 3) := by decide +kernel
theorem dX2_fits_30 : decode cX2_fits 30 = .ok (.lcmp, 1) := by decide +kernel
theorem dX2_fits_31 : decode cX2_fits 31 = .ok (.ifCond .le 5, 3) := by decide +kernel
theorem dX2_fits_34 : decode cX2_fits 34 = .ok (.iconst 0, 1) := by decide +kernel
theorem dX2_fits_35 : decode cX2_fits 35 = .ok (.ireturn, 1) := by decide +kernel
theorem dX2_fits_36 : decode cX2_fits 36 = .ok (.iinc 1 1, 3) := by decide +kernel
theorem dX2_fits_39 : decode cX2_fits 39 = .ok (.goto (-37), 3) := by decide +kernel
theorem dX2_fits_42 : decode cX2_fits 42 = .ok (.aload_n 0, 1) := by decide +kernel
theorem dX2_fits_43 : decode cX2_fits 43 = .ok (.getfield 21, 3) := by decide +kernel
theorem dX2_fits_46 : decode cX2_fits 46 = .ok (.ldc2_w 58, 3) := by decide +kernel
theorem dX2_fits_49 : decode cX2_fits 49 = .ok (.lcmp, 1) := by decide +kernel
theorem dX2_fits_50 : decode cX2_fits 50 = .ok (.ifCond .lt 40, 3) := by decide +kernel
theorem dX2_fits_53 : decode cX2_fits 53 = .ok (.aload_n 0, 1) := by decide +kernel
theorem dX2_fits_54 : decode cX2_fits 54 = .ok (.getfield 21, 3) := by decide +kernel
theorem dX2_fits_57 : decode cX2_fits 57 = .ok (.ldc2_w 60, 3) := by decide +kernel
theorem dX2_fits_60 : decode cX2_fits 60 = .ok (.lcmp, 1) := by decide +kernel
theorem dX2_fits_61 : decode cX2_fits 61 = .ok (.ifCond .gt 29, 3) := by decide +kernel
theorem dX2_fits_64 : decode cX2_fits 64 = .ok (.aload_n 0, 1) := by decide +kernel
theorem dX2_fits_65 : decode cX2_fits 65 = .ok (.getfield 25, 3) := by decide +kernel
theorem dX2_fits_68 : decode cX2_fits 68 = .ok (.ldc2_w 58, 3) := by decide +kernel
theorem dX2_fits_71 : decode cX2_fits 71 = .ok (.lcmp, 1) := by decide +kernel
theorem dX2_fits_72 : decode cX2_fits 72 = .ok (.ifCond .lt 18, 3) := by decide +kernel
theorem dX2_fits_75 : decode cX2_fits 75 = .ok (.aload_n 0, 1) := by decide +kernel
theorem dX2_fits_76 : decode cX2_fits 76 = .ok (.getfield 25, 3) := by decide +kernel
theorem dX2_fits_79 : decode cX2_fits 79 = .ok (.ldc2_w 60, 3) := by decide +kernel
theorem dX2_fits_82 : decode cX2_fits 82 = .ok (.lcmp, 1) := by decide +kernel
theorem dX2_fits_83 : decode cX2_fits 83 = .ok (.ifCond .gt 7, 3) := by decide +kernel
theorem dX2_fits_86 : decode cX2_fits 86 = .ok (.iconst 1, 1) := by decide +kernel
theorem dX2_fits_87 : decode cX2_fits 87 = .ok (.goto 4, 3) := by decide +kernel
theorem dX2_fits_90 : decode cX2_fits 90 = .ok (.iconst 0, 1) := by decide +kernel
theorem dX2_fits_91 : decode cX2_fits 91 = .ok (.ireturn, 1) := by decide +kernel
theorem dX2_spreadLow_0 : decode cX2_spreadLow 0 = .ok (.lconst 0, 1) := by decide +kernel
theorem dX2_spreadLow_1 : decode cX2_spreadLow 1 = .ok (.lstore_n 1, 1) := by decide +kernel
theorem dX2_spreadLow_2 : decode cX2_spreadLow 2 = .ok (.iconst 0, 1) := by decide +kernel
theorem dX2_spreadLow_3 : decode cX2_spreadLow 3 = .ok (.istore_n 3, 1) := by decide +kernel
theorem dX2_spreadLow_4 : decode cX2_spreadLow 4 = .ok (.iload_n 3, 1) := by decide +kernel
theorem dX2_spreadLow_5 : decode cX2_spreadLow 5 = .ok (.bipush 10, 2) := by decide +kernel
theorem dX2_spreadLow_7 : decode cX2_spreadLow 7 = .ok (.if_icmp .ge 34, 3) := by decide +kernel
theorem dX2_spreadLow_10 : decode cX2_spreadLow 10 = .ok (.lload_n 1, 1) := by decide +kernel
theorem dX2_spreadLow_11 : decode cX2_spreadLow 11 = .ok (.aload_n 0, 1) := by decide +kernel
theorem dX2_spreadLow_12 : decode cX2_spreadLow 12 = .ok (.getfield 9, 3) := by decide +kernel
theorem dX2_spreadLow_15 : decode cX2_spreadLow 15 = .ok (.iload_n 3, 1) := by decide +kernel
theorem dX2_spreadLow_16 : decode cX2_spreadLow 16 = .ok (.laload, 1) := by decide +kernel
theorem dX2_spreadLow_17 : decode cX2_spreadLow 17 = .ok (.getstatic 50, 3) := by decide +kernel
theorem dX2_spreadLow_20 : decode cX2_spreadLow 20 = .ok (.iload_n 3, 1) := by decide +kernel
theorem dX2_spreadLow_21 : decode cX2_spreadLow 21 = .ok (.iaload, 1) := by decide +kernel
theorem dX2_spreadLow_22 : decode cX2_spreadLow 22 = .ok (.i2l, 1) := by decide +kernel
theorem dX2_spreadLow_23 : decode cX2_spreadLow 23 = .ok (.lmul, 1) := by decide +kernel
theorem dX2_spreadLow_24 : decode cX2_spreadLow 24 = .ok (.aload_n 0, 1) := by decide +kernel
theorem dX2_spreadLow_25 : decode cX2_spreadLow 25 = .ok (.getfield 9, 3) := by decide +kernel
theorem dX2_spreadLow_28 : decode cX2_spreadLow 28 = .ok (.iload_n 3, 1) := by decide +kernel
theorem dX2_spreadLow_29 : decode cX2_spreadLow 29 = .ok (.laload, 1) := by decide +kernel
theorem dX2_spreadLow_30 : decode cX2_spreadLow 30 = .ok (.invokestatic 62, 3) := by decide +kernel
theorem dX2_spreadLow_33 : decode cX2_spreadLow 33 = .ok (.ladd, 1) := by decide +kernel
theorem dX2_spreadLow_34 : decode cX2_spreadLow 34 = .ok (.lstore_n 1, 1) := by decide +kernel
theorem dX2_spreadLow_35 : decode cX2_spreadLow 35 = .ok (.iinc 3 1, 3) := by decide +kernel
theorem dX2_spreadLow_38 : decode cX2_spreadLow 38 = .ok (.goto (-34), 3) := by decide +kernel
theorem dX2_spreadLow_41 : decode cX2_spreadLow 41 = .ok (.lload_n 1, 1) := by decide +kernel
theorem dX2_spreadLow_42 : decode cX2_spreadLow 42 = .ok (.lreturn, 1) := by decide +kernel
theorem dX2_spreadHigh_0 : decode cX2_spreadHigh 0 = .ok (.lconst 0, 1) := by decide +kernel
theorem dX2_spreadHigh_1 : decode cX2_spreadHigh 1 = .ok (.lstore_n 1, 1) := by decide +kernel
theorem dX2_spreadHigh_2 : decode cX2_spreadHigh 2 = .ok (.iconst 0, 1) := by decide +kernel
theorem dX2_spreadHigh_3 : decode cX2_spreadHigh 3 = .ok (.istore_n 3, 1) := by decide +kernel
theorem dX2_spreadHigh_4 : decode cX2_spreadHigh 4 = .ok (.iload_n 3, 1) := by decide +kernel
theorem dX2_spreadHigh_5 : decode cX2_spreadHigh 5 = .ok (.bipush 10, 2) := by decide +kernel
theorem dX2_spreadHigh_7 : decode cX2_spreadHigh 7 = .ok (.if_icmp .ge 34, 3) := by decide +kernel
theorem dX2_spreadHigh_10 : decode cX2_spreadHigh 10 = .ok (.lload_n 1, 1) := by decide +kernel
theorem dX2_spreadHigh_11 : decode cX2_spreadHigh 11 = .ok (.aload_n 0, 1) := by decide +kernel
theorem dX2_spreadHigh_12 : decode cX2_spreadHigh 12 = .ok (.getfield 9, 3) := by decide +kernel
theorem dX2_spreadHigh_15 : decode cX2_spreadHigh 15 = .ok (.iload_n 3, 1) := by decide +kernel
theorem dX2_spreadHigh_16 : decode cX2_spreadHigh 16 = .ok (.laload, 1) := by decide +kernel
theorem dX2_spreadHigh_17 : decode cX2_spreadHigh 17 = .ok (.getstatic 50, 3) := by decide +kernel
theorem dX2_spreadHigh_20 : decode cX2_spreadHigh 20 = .ok (.iload_n 3, 1) := by decide +kernel
theorem dX2_spreadHigh_21 : decode cX2_spreadHigh 21 = .ok (.iaload, 1) := by decide +kernel
theorem dX2_spreadHigh_22 : decode cX2_spreadHigh 22 = .ok (.i2l, 1) := by decide +kernel
theorem dX2_spreadHigh_23 : decode cX2_spreadHigh 23 = .ok (.lmul, 1) := by decide +kernel
theorem dX2_spreadHigh_24 : decode cX2_spreadHigh 24 = .ok (.aload_n 0, 1) := by decide +kernel
theorem dX2_spreadHigh_25 : decode cX2_spreadHigh 25 = .ok (.getfield 9, 3) := by decide +kernel
theorem dX2_spreadHigh_28 : decode cX2_spreadHigh 28 = .ok (.iload_n 3, 1) := by decide +kernel
theorem dX2_spreadHigh_29 : decode cX2_spreadHigh 29 = .ok (.laload, 1) := by decide +kernel
theorem dX2_spreadHigh_30 : decode cX2_spreadHigh 30 = .ok (.invokestatic 64, 3) := by decide +kernel
theorem dX2_spreadHigh_33 : decode cX2_spreadHigh 33 = .ok (.ladd, 1) := by decide +kernel
theorem dX2_spreadHigh_34 : decode cX2_spreadHigh 34 = .ok (.lstore_n 1, 1) := by decide +kernel
theorem dX2_spreadHigh_35 : decode cX2_spreadHigh 35 = .ok (.iinc 3 1, 3) := by decide +kernel
theorem dX2_spreadHigh_38 : decode cX2_spreadHigh 38 = .ok (.goto (-34), 3) := by decide +kernel
theorem dX2_spreadHigh_41 : decode cX2_spreadHigh 41 = .ok (.lload_n 1, 1) := by decide +kernel
theorem dX2_spreadHigh_42 : decode cX2_spreadHigh 42 = .ok (.lreturn, 1) := by decide +kernel
theorem dX2_boundLow_0 : decode cX2_boundLow 0 = .ok (.aload_n 0, 1) := by decide +kernel
theorem dX2_boundLow_1 : decode cX2_boundLow 1 = .ok (.invokevirtual 67, 3) := by decide +kernel
theorem dX2_boundLow_4 : decode cX2_boundLow 4 = .ok (.aload_n 0, 1) := by decide +kernel
theorem dX2_boundLow_5 : decode cX2_boundLow 5 = .ok (.getfield 21, 3) := by decide +kernel
theorem dX2_boundLow_8 : decode cX2_boundLow 8 = .ok (.ladd, 1) := by decide +kernel
theorem dX2_boundLow_9 : decode cX2_boundLow 9 = .ok (.lreturn, 1) := by decide +kernel
theorem dX2_boundHigh_0 : decode cX2_boundHigh 0 = .ok (.aload_n 0, 1) := by decide +kernel
theorem dX2_boundHigh_1 : decode cX2_boundHigh 1 = .ok (.invokevirtual 71, 3) := by decide +kernel
theorem dX2_boundHigh_4 : decode cX2_boundHigh 4 = .ok (.aload_n 0, 1) := by decide +kernel
theorem dX2_boundHigh_5 : decode cX2_boundHigh 5 = .ok (.getfield 25, 3) := by decide +kernel
theorem dX2_boundHigh_8 : decode cX2_boundHigh 8 = .ok (.ladd, 1) := by decide +kernel
theorem dX2_boundHigh_9 : decode cX2_boundHigh 9 = .ok (.lreturn, 1) := by decide +kernel
theorem dX2_staysInSquare_0 : decode cX2_staysInSquare 0 = .ok (.aload_n 0, 1) := by decide +kernel
theorem dX2_staysInSquare_1 : decode cX2_staysInSquare 1 = .ok (.invokevirtual 67, 3) := by decide +kernel
theorem dX2_staysInSquare_4 : decode cX2_staysInSquare 4 = .ok (.aload_n 0, 1) := by decide +kernel
theorem dX2_staysInSquare_5 : decode cX2_staysInSquare 5 = .ok (.getfield 21, 3) := by decide +kernel
theorem dX2_staysInSquare_8 : decode cX2_staysInSquare 8 = .ok (.ladd, 1) := by decide +kernel
theorem dX2_staysInSquare_9 : decode cX2_staysInSquare 9 = .ok (.ldc2_w 74, 3) := by decide +kernel
theorem dX2_staysInSquare_12 : decode cX2_staysInSquare 12 = .ok (.lcmp, 1) := by decide +kernel
theorem dX2_staysInSquare_13 : decode cX2_staysInSquare 13 = .ok (.ifCond .lt 23, 3) := by decide +kernel
theorem dX2_staysInSquare_16 : decode cX2_staysInSquare 16 = .ok (.aload_n 0, 1) := by decide +kernel
theorem dX2_staysInSquare_17 : decode cX2_staysInSquare 17 = .ok (.invokevirtual 71, 3) := by decide +kernel
theorem dX2_staysInSquare_20 : decode cX2_staysInSquare 20 = .ok (.aload_n 0, 1) := by decide +kernel
theorem dX2_staysInSquare_21 : decode cX2_staysInSquare 21 = .ok (.getfield 25, 3) := by decide +kernel
theorem dX2_staysInSquare_24 : decode cX2_staysInSquare 24 = .ok (.ladd, 1) := by decide +kernel
theorem dX2_staysInSquare_25 : decode cX2_staysInSquare 25 = .ok (.ldc2_w 32, 3) := by decide +kernel
theorem dX2_staysInSquare_28 : decode cX2_staysInSquare 28 = .ok (.lcmp, 1) := by decide +kernel
theorem dX2_staysInSquare_29 : decode cX2_staysInSquare 29 = .ok (.ifCond .gt 7, 3) := by decide +kernel
theorem dX2_staysInSquare_32 : decode cX2_staysInSquare 32 = .ok (.iconst 1, 1) := by decide +kernel
theorem dX2_staysInSquare_33 : decode cX2_staysInSquare 33 = .ok (.goto 4, 3) := by decide +kernel
theorem dX2_staysInSquare_36 : decode cX2_staysInSquare 36 = .ok (.iconst 0, 1) := by decide +kernel
theorem dX2_staysInSquare_37 : decode cX2_staysInSquare 37 = .ok (.ireturn, 1) := by decide +kernel
theorem dX2_valueInBillionths_0 : decode cX2_valueInBillionths 0 = .ok (.lconst 0, 1) := by decide +kernel
theorem dX2_valueInBillionths_1 : decode cX2_valueInBillionths 1 = .ok (.lstore 5, 2) := by decide +kernel
theorem dX2_valueInBillionths_3 : decode cX2_valueInBillionths 3 = .ok (.iconst 0, 1) := by decide +kernel
theorem dX2_valueInBillionths_4 : decode cX2_valueInBillionths 4 = .ok (.istore 7, 2) := by decide +kernel
theorem dX2_valueInBillionths_6 : decode cX2_valueInBillionths 6 = .ok (.iload 7, 2) := by decide +kernel
theorem dX2_valueInBillionths_8 : decode cX2_valueInBillionths 8 = .ok (.bipush 10, 2) := by decide +kernel
theorem dX2_valueInBillionths_10 : decode cX2_valueInBillionths 10 = .ok (.if_icmp .ge 95, 3) := by decide +kernel
theorem dX2_valueInBillionths_13 : decode cX2_valueInBillionths 13 = .ok (.aload_n 0, 1) := by decide +kernel
theorem dX2_valueInBillionths_14 : decode cX2_valueInBillionths 14 = .ok (.getfield 9, 3) := by decide +kernel
theorem dX2_valueInBillionths_17 : decode cX2_valueInBillionths 17 = .ok (.iload 7, 2) := by decide +kernel
theorem dX2_valueInBillionths_19 : decode cX2_valueInBillionths 19 = .ok (.laload, 1) := by decide +kernel
theorem dX2_valueInBillionths_20 : decode cX2_valueInBillionths 20 = .ok (.lstore 8, 2) := by decide +kernel
theorem dX2_valueInBillionths_22 : decode cX2_valueInBillionths 22 = .ok (.iconst 0, 1) := by decide +kernel
theorem dX2_valueInBillionths_23 : decode cX2_valueInBillionths 23 = .ok (.istore 10, 2) := by decide +kernel
theorem dX2_valueInBillionths_25 : decode cX2_valueInBillionths 25 = .ok (.iload 10, 2) := by decide +kernel
theorem dX2_valueInBillionths_27 : decode cX2_valueInBillionths 27 = .ok (.iconst 3, 1) := by decide +kernel
theorem dX2_valueInBillionths_28 : decode cX2_valueInBillionths 28 = .ok (.if_icmp .ge 64, 3) := by decide +kernel
theorem dX2_valueInBillionths_31 : decode cX2_valueInBillionths 31 = .ok (.iload 10, 2) := by decide +kernel
theorem dX2_valueInBillionths_33 : decode cX2_valueInBillionths 33 = .ok (.getstatic 76, 3) := by decide +kernel
theorem dX2_valueInBillionths_36 : decode cX2_valueInBillionths 36 = .ok (.iload 7, 2) := by decide +kernel
theorem dX2_valueInBillionths_38 : decode cX2_valueInBillionths 38 = .ok (.iaload, 1) := by decide +kernel
theorem dX2_valueInBillionths_39 : decode cX2_valueInBillionths 39 = .ok (.if_icmp .ge 12, 3) := by decide +kernel
theorem dX2_valueInBillionths_42 : decode cX2_valueInBillionths 42 = .ok (.lload 8, 2) := by decide +kernel
theorem dX2_valueInBillionths_44 : decode cX2_valueInBillionths 44 = .ok (.lload_n 1, 1) := by decide +kernel
theorem dX2_valueInBillionths_45 : decode cX2_valueInBillionths 45 = .ok (.lmul, 1) := by decide +kernel
theorem dX2_valueInBillionths_46 : decode cX2_valueInBillionths 46 = .ok (.lstore 8, 2) := by decide +kernel
theorem dX2_valueInBillionths_48 : decode cX2_valueInBillionths 48 = .ok (.goto 38, 3) := by decide +kernel
theorem dX2_valueInBillionths_51 : decode cX2_valueInBillionths 51 = .ok (.iload 10, 2) := by decide +kernel
theorem dX2_valueInBillionths_53 : decode cX2_valueInBillionths 53 = .ok (.getstatic 76, 3) := by decide +kernel
theorem dX2_valueInBillionths_56 : decode cX2_valueInBillionths 56 = .ok (.iload 7, 2) := by decide +kernel
theorem dX2_valueInBillionths_58 : decode cX2_valueInBillionths 58 = .ok (.iaload, 1) := by decide +kernel
theorem dX2_valueInBillionths_59 : decode cX2_valueInBillionths 59 = .ok (.getstatic 79, 3) := by decide +kernel
theorem dX2_valueInBillionths_62 : decode cX2_valueInBillionths 62 = .ok (.iload 7, 2) := by decide +kernel
theorem dX2_valueInBillionths_64 : decode cX2_valueInBillionths 64 = .ok (.iaload, 1) := by decide +kernel
theorem dX2_valueInBillionths_65 : decode cX2_valueInBillionths 65 = .ok (.iadd, 1) := by decide +kernel
theorem dX2_valueInBillionths_66 : decode cX2_valueInBillionths 66 = .ok (.if_icmp .ge 12, 3) := by decide +kernel
theorem dX2_valueInBillionths_69 : decode cX2_valueInBillionths 69 = .ok (.lload 8, 2) := by decide +kernel
theorem dX2_valueInBillionths_71 : decode cX2_valueInBillionths 71 = .ok (.lload_n 3, 1) := by decide +kernel
theorem dX2_valueInBillionths_72 : decode cX2_valueInBillionths 72 = .ok (.lmul, 1) := by decide +kernel
theorem dX2_valueInBillionths_73 : decode cX2_valueInBillionths 73 = .ok (.lstore 8, 2) := by decide +kernel
theorem dX2_valueInBillionths_75 : decode cX2_valueInBillionths 75 = .ok (.goto 11, 3) := by decide +kernel
theorem dX2_valueInBillionths_78 : decode cX2_valueInBillionths 78 = .ok (.lload 8, 2) := by decide +kernel
theorem dX2_valueInBillionths_80 : decode cX2_valueInBillionths 80 = .ok (.ldc2_w 32, 3) := by decide +kernel
theorem dX2_valueInBillionths_83 : decode cX2_valueInBillionths 83 = .ok (.lmul, 1) := by decide +kernel
theorem dX2_valueInBillionths_84 : decode cX2_valueInBillionths 84 = .ok (.lstore 8, 2) := by decide +kernel
theorem dX2_valueInBillionths_86 : decode cX2_valueInBillionths 86 = .ok (.iinc 10 1, 3) := by decide +kernel
theorem dX2_valueInBillionths_89 : decode cX2_valueInBillionths 89 = .ok (.goto (-64), 3) := by decide +kernel
theorem dX2_valueInBillionths_92 : decode cX2_valueInBillionths 92 = .ok (.lload 5, 2) := by decide +kernel
theorem dX2_valueInBillionths_94 : decode cX2_valueInBillionths 94 = .ok (.lload 8, 2) := by decide +kernel
theorem dX2_valueInBillionths_96 : decode cX2_valueInBillionths 96 = .ok (.ladd, 1) := by decide +kernel
theorem dX2_valueInBillionths_97 : decode cX2_valueInBillionths 97 = .ok (.lstore 5, 2) := by decide +kernel
theorem dX2_valueInBillionths_99 : decode cX2_valueInBillionths 99 = .ok (.iinc 7 1, 3) := by decide +kernel
theorem dX2_valueInBillionths_102 : decode cX2_valueInBillionths 102 = .ok (.goto (-96), 3) := by decide +kernel
theorem dX2_valueInBillionths_105 : decode cX2_valueInBillionths 105 = .ok (.lload 5, 2) := by decide +kernel
theorem dX2_valueInBillionths_107 : decode cX2_valueInBillionths 107 = .ok (.lreturn, 1) := by decide +kernel
theorem dX2_highestDegree_0 : decode cX2_highestDegree 0 = .ok (.iconst (-1), 1) := by decide +kernel
theorem dX2_highestDegree_1 : decode cX2_highestDegree 1 = .ok (.istore_n 1, 1) := by decide +kernel
theorem dX2_highestDegree_2 : decode cX2_highestDegree 2 = .ok (.iconst 0, 1) := by decide +kernel
theorem dX2_highestDegree_3 : decode cX2_highestDegree 3 = .ok (.istore_n 2, 1) := by decide +kernel
theorem dX2_highestDegree_4 : decode cX2_highestDegree 4 = .ok (.iload_n 2, 1) := by decide +kernel
theorem dX2_highestDegree_5 : decode cX2_highestDegree 5 = .ok (.bipush 10, 2) := by decide +kernel
theorem dX2_highestDegree_7 : decode cX2_highestDegree 7 = .ok (.if_icmp .ge 36, 3) := by decide +kernel
theorem dX2_highestDegree_10 : decode cX2_highestDegree 10 = .ok (.aload_n 0, 1) := by decide +kernel
theorem dX2_highestDegree_11 : decode cX2_highestDegree 11 = .ok (.getfield 9, 3) := by decide +kernel
theorem dX2_highestDegree_14 : decode cX2_highestDegree 14 = .ok (.iload_n 2, 1) := by decide +kernel
theorem dX2_highestDegree_15 : decode cX2_highestDegree 15 = .ok (.laload, 1) := by decide +kernel
theorem dX2_highestDegree_16 : decode cX2_highestDegree 16 = .ok (.lconst 0, 1) := by decide +kernel
theorem dX2_highestDegree_17 : decode cX2_highestDegree 17 = .ok (.lcmp, 1) := by decide +kernel
theorem dX2_highestDegree_18 : decode cX2_highestDegree 18 = .ok (.ifCond .eq 19, 3) := by decide +kernel
theorem dX2_highestDegree_21 : decode cX2_highestDegree 21 = .ok (.iload_n 1, 1) := by decide +kernel
theorem dX2_highestDegree_22 : decode cX2_highestDegree 22 = .ok (.getstatic 76, 3) := by decide +kernel
theorem dX2_highestDegree_25 : decode cX2_highestDegree 25 = .ok (.iload_n 2, 1) := by decide +kernel
theorem dX2_highestDegree_26 : decode cX2_highestDegree 26 = .ok (.iaload, 1) := by decide +kernel
theorem dX2_highestDegree_27 : decode cX2_highestDegree 27 = .ok (.getstatic 79, 3) := by decide +kernel
theorem dX2_highestDegree_30 : decode cX2_highestDegree 30 = .ok (.iload_n 2, 1) := by decide +kernel
theorem dX2_highestDegree_31 : decode cX2_highestDegree 31 = .ok (.iaload, 1) := by decide +kernel
theorem dX2_highestDegree_32 : decode cX2_highestDegree 32 = .ok (.iadd, 1) := by decide +kernel
theorem dX2_highestDegree_33 : decode cX2_highestDegree 33 = .ok (.invokestatic 82, 3) := by decide +kernel
theorem dX2_highestDegree_36 : decode cX2_highestDegree 36 = .ok (.istore_n 1, 1) := by decide +kernel
theorem dX2_highestDegree_37 : decode cX2_highestDegree 37 = .ok (.iinc 2 1, 3) := by decide +kernel
theorem dX2_highestDegree_40 : decode cX2_highestDegree 40 = .ok (.goto (-36), 3) := by decide +kernel
theorem dX2_highestDegree_43 : decode cX2_highestDegree 43 = .ok (.iload_n 1, 1) := by decide +kernel
theorem dX2_highestDegree_44 : decode cX2_highestDegree 44 = .ok (.ireturn, 1) := by decide +kernel
theorem dX2_contains_0 : decode cX2_contains 0 = .ok (.aload_n 1, 1) := by decide +kernel
theorem dX2_contains_1 : decode cX2_contains 1 = .ok (.getfield 21, 3) := by decide +kernel
theorem dX2_contains_4 : decode cX2_contains 4 = .ok (.lstore_n 2, 1) := by decide +kernel
theorem dX2_contains_5 : decode cX2_contains 5 = .ok (.aload_n 1, 1) := by decide +kernel
theorem dX2_contains_6 : decode cX2_contains 6 = .ok (.getfield 25, 3) := by decide +kernel
theorem dX2_contains_9 : decode cX2_contains 9 = .ok (.lstore 4, 2) := by decide +kernel
theorem dX2_contains_11 : decode cX2_contains 11 = .ok (.iconst 0, 1) := by decide +kernel
theorem dX2_contains_12 : decode cX2_contains 12 = .ok (.istore 6, 2) := by decide +kernel
theorem dX2_contains_14 : decode cX2_contains 14 = .ok (.iload 6, 2) := by decide +kernel
theorem dX2_contains_16 : decode cX2_contains 16 = .ok (.bipush 10, 2) := by decide +kernel
theorem dX2_contains_18 : decode cX2_contains 18 = .ok (.if_icmp .ge 56, 3) := by decide +kernel
theorem dX2_contains_21 : decode cX2_contains 21 = .ok (.aload_n 1, 1) := by decide +kernel
theorem dX2_contains_22 : decode cX2_contains 22 = .ok (.getfield 9, 3) := by decide +kernel
theorem dX2_contains_25 : decode cX2_contains 25 = .ok (.iload 6, 2) := by decide +kernel
theorem dX2_contains_27 : decode cX2_contains 27 = .ok (.laload, 1) := by decide +kernel
theorem dX2_contains_28 : decode cX2_contains 28 = .ok (.aload_n 0, 1) := by decide +kernel
theorem dX2_contains_29 : decode cX2_contains 29 = .ok (.getfield 9, 3) := by decide +kernel
theorem dX2_contains_32 : decode cX2_contains 32 = .ok (.iload 6, 2) := by decide +kernel
theorem dX2_contains_34 : decode cX2_contains 34 = .ok (.laload, 1) := by decide +kernel
theorem dX2_contains_35 : decode cX2_contains 35 = .ok (.lsub, 1) := by decide +kernel
theorem dX2_contains_36 : decode cX2_contains 36 = .ok (.lstore 7, 2) := by decide +kernel
theorem dX2_contains_38 : decode cX2_contains 38 = .ok (.lload_n 2, 1) := by decide +kernel
theorem dX2_contains_39 : decode cX2_contains 39 = .ok (.lload 7, 2) := by decide +kernel
theorem dX2_contains_41 : decode cX2_contains 41 = .ok (.getstatic 50, 3) := by decide +kernel
theorem dX2_contains_44 : decode cX2_contains 44 = .ok (.iload 6, 2) := by decide +kernel
theorem dX2_contains_46 : decode cX2_contains 46 = .ok (.iaload, 1) := by decide +kernel
theorem dX2_contains_47 : decode cX2_contains 47 = .ok (.invokestatic 84, 3) := by decide +kernel
theorem dX2_contains_50 : decode cX2_contains 50 = .ok (.ladd, 1) := by decide +kernel
theorem dX2_contains_51 : decode cX2_contains 51 = .ok (.lstore_n 2, 1) := by decide +kernel
theorem dX2_contains_52 : decode cX2_contains 52 = .ok (.lload 4, 2) := by decide +kernel
theorem dX2_contains_54 : decode cX2_contains 54 = .ok (.lload 7, 2) := by decide +kernel
theorem dX2_contains_56 : decode cX2_contains 56 = .ok (.getstatic 50, 3) := by decide +kernel
theorem dX2_contains_59 : decode cX2_contains 59 = .ok (.iload 6, 2) := by decide +kernel
theorem dX2_contains_61 : decode cX2_contains 61 = .ok (.iaload, 1) := by decide +kernel
theorem dX2_contains_62 : decode cX2_contains 62 = .ok (.invokestatic 88, 3) := by decide +kernel
theorem dX2_contains_65 : decode cX2_contains 65 = .ok (.ladd, 1) := by decide +kernel
theorem dX2_contains_66 : decode cX2_contains 66 = .ok (.lstore 4, 2) := by decide +kernel
theorem dX2_contains_68 : decode cX2_contains 68 = .ok (.iinc 6 1, 3) := by decide +kernel
theorem dX2_contains_71 : decode cX2_contains 71 = .ok (.goto (-57), 3) := by decide +kernel
theorem dX2_contains_74 : decode cX2_contains 74 = .ok (.lload_n 2, 1) := by decide +kernel
theorem dX2_contains_75 : decode cX2_contains 75 = .ok (.aload_n 0, 1) := by decide +kernel
theorem dX2_contains_76 : decode cX2_contains 76 = .ok (.getfield 21, 3) := by decide +kernel
theorem dX2_contains_79 : decode cX2_contains 79 = .ok (.lcmp, 1) := by decide +kernel
theorem dX2_contains_80 : decode cX2_contains 80 = .ok (.ifCond .lt 17, 3) := by decide +kernel
theorem dX2_contains_83 : decode cX2_contains 83 = .ok (.lload 4, 2) := by decide +kernel
theorem dX2_contains_85 : decode cX2_contains 85 = .ok (.aload_n 0, 1) := by decide +kernel
theorem dX2_contains_86 : decode cX2_contains 86 = .ok (.getfield 25, 3) := by decide +kernel
theorem dX2_contains_89 : decode cX2_contains 89 = .ok (.lcmp, 1) := by decide +kernel
theorem dX2_contains_90 : decode cX2_contains 90 = .ok (.ifCond .gt 7, 3) := by decide +kernel
theorem dX2_contains_93 : decode cX2_contains 93 = .ok (.iconst 1, 1) := by decide +kernel
theorem dX2_contains_94 : decode cX2_contains 94 = .ok (.goto 4, 3) := by decide +kernel
theorem dX2_contains_97 : decode cX2_contains 97 = .ok (.iconst 0, 1) := by decide +kernel
theorem dX2_contains_98 : decode cX2_contains 98 = .ok (.ireturn, 1) := by decide +kernel
theorem dX2_sweepUpTo_0 : decode cX2_sweepUpTo 0 = .ok (.iconst 0, 1) := by decide +kernel
theorem dX2_sweepUpTo_1 : decode cX2_sweepUpTo 1 = .ok (.istore_n 3, 1) := by decide +kernel
theorem dX2_sweepUpTo_2 : decode cX2_sweepUpTo 2 = .ok (.iconst 0, 1) := by decide +kernel
theorem dX2_sweepUpTo_3 : decode cX2_sweepUpTo 3 = .ok (.istore 4, 2) := by decide +kernel
theorem dX2_sweepUpTo_5 : decode cX2_sweepUpTo 5 = .ok (.iload 4, 2) := by decide +kernel
theorem dX2_sweepUpTo_7 : decode cX2_sweepUpTo 7 = .ok (.bipush 10, 2) := by decide +kernel
theorem dX2_sweepUpTo_9 : decode cX2_sweepUpTo 9 = .ok (.if_icmp .ge 91, 3) := by decide +kernel
theorem dX2_sweepUpTo_12 : decode cX2_sweepUpTo 12 = .ok (.aload_n 0, 1) := by decide +kernel
theorem dX2_sweepUpTo_13 : decode cX2_sweepUpTo 13 = .ok (.getfield 9, 3) := by decide +kernel
theorem dX2_sweepUpTo_16 : decode cX2_sweepUpTo 16 = .ok (.iload 4, 2) := by decide +kernel
theorem dX2_sweepUpTo_18 : decode cX2_sweepUpTo 18 = .ok (.laload, 1) := by decide +kernel
theorem dX2_sweepUpTo_19 : decode cX2_sweepUpTo 19 = .ok (.lstore 5, 2) := by decide +kernel
theorem dX2_sweepUpTo_21 : decode cX2_sweepUpTo 21 = .ok (.iload 4, 2) := by decide +kernel
theorem dX2_sweepUpTo_23 : decode cX2_sweepUpTo 23 = .ok (.ifCond .eq 71, 3) := by decide +kernel
theorem dX2_sweepUpTo_26 : decode cX2_sweepUpTo 26 = .ok (.lload 5, 2) := by decide +kernel
theorem dX2_sweepUpTo_28 : decode cX2_sweepUpTo 28 = .ok (.lconst 0, 1) := by decide +kernel
theorem dX2_sweepUpTo_29 : decode cX2_sweepUpTo 29 = .ok (.lcmp, 1) := by decide +kernel
theorem dX2_sweepUpTo_30 : decode cX2_sweepUpTo 30 = .ok (.ifCond .eq 64, 3) := by decide +kernel
theorem dX2_sweepUpTo_33 : decode cX2_sweepUpTo 33 = .ok (.lload 5, 2) := by decide +kernel
theorem dX2_sweepUpTo_35 : decode cX2_sweepUpTo 35 = .ok (.invokestatic 91, 3) := by decide +kernel
theorem dX2_sweepUpTo_38 : decode cX2_sweepUpTo 38 = .ok (.lload_n 1, 1) := by decide +kernel
theorem dX2_sweepUpTo_39 : decode cX2_sweepUpTo 39 = .ok (.lcmp, 1) := by decide +kernel
theorem dX2_sweepUpTo_40 : decode cX2_sweepUpTo 40 = .ok (.ifCond .gt 54, 3) := by decide +kernel
theorem dX2_sweepUpTo_43 : decode cX2_sweepUpTo 43 = .ok (.aload_n 0, 1) := by decide +kernel
theorem dX2_sweepUpTo_44 : decode cX2_sweepUpTo 44 = .ok (.dup, 1) := by decide +kernel
theorem dX2_sweepUpTo_45 : decode cX2_sweepUpTo 45 = .ok (.getfield 21, 3) := by decide +kernel
theorem dX2_sweepUpTo_48 : decode cX2_sweepUpTo 48 = .ok (.lload 5, 2) := by decide +kernel
theorem dX2_sweepUpTo_50 : decode cX2_sweepUpTo 50 = .ok (.getstatic 50, 3) := by decide +kernel
theorem dX2_sweepUpTo_53 : decode cX2_sweepUpTo 53 = .ok (.iload 4, 2) := by decide +kernel
theorem dX2_sweepUpTo_55 : decode cX2_sweepUpTo 55 = .ok (.iaload, 1) := by decide +kernel
theorem dX2_sweepUpTo_56 : decode cX2_sweepUpTo 56 = .ok (.invokestatic 84, 3) := by decide +kernel
theorem dX2_sweepUpTo_59 : decode cX2_sweepUpTo 59 = .ok (.ladd, 1) := by decide +kernel
theorem dX2_sweepUpTo_60 : decode cX2_sweepUpTo 60 = .ok (.putfield 21, 3) := by decide +kernel
theorem dX2_sweepUpTo_63 : decode cX2_sweepUpTo 63 = .ok (.aload_n 0, 1) := by decide +kernel
theorem dX2_sweepUpTo_64 : decode cX2_sweepUpTo 64 = .ok (.dup, 1) := by decide +kernel
theorem dX2_sweepUpTo_65 : decode cX2_sweepUpTo 65 = .ok (.getfield 25, 3) := by decide +kernel
theorem dX2_sweepUpTo_68 : decode cX2_sweepUpTo 68 = .ok (.lload 5, 2) := by decide +kernel
theorem dX2_sweepUpTo_70 : decode cX2_sweepUpTo 70 = .ok (.getstatic 50, 3) := by decide +kernel
theorem dX2_sweepUpTo_73 : decode cX2_sweepUpTo 73 = .ok (.iload 4, 2) := by decide +kernel
theorem dX2_sweepUpTo_75 : decode cX2_sweepUpTo 75 = .ok (.iaload, 1) := by decide +kernel
theorem dX2_sweepUpTo_76 : decode cX2_sweepUpTo 76 = .ok (.invokestatic 88, 3) := by decide +kernel
theorem dX2_sweepUpTo_79 : decode cX2_sweepUpTo 79 = .ok (.ladd, 1) := by decide +kernel
theorem dX2_sweepUpTo_80 : decode cX2_sweepUpTo 80 = .ok (.putfield 25, 3) := by decide +kernel
theorem dX2_sweepUpTo_83 : decode cX2_sweepUpTo 83 = .ok (.aload_n 0, 1) := by decide +kernel
theorem dX2_sweepUpTo_84 : decode cX2_sweepUpTo 84 = .ok (.getfield 9, 3) := by decide +kernel
theorem dX2_sweepUpTo_87 : decode cX2_sweepUpTo 87 = .ok (.iload 4, 2) := by decide +kernel
theorem dX2_sweepUpTo_89 : decode cX2_sweepUpTo 89 = .ok (.lconst 0, 1) := by decide +kernel
theorem dX2_sweepUpTo_90 : decode cX2_sweepUpTo 90 = .ok (.lastore, 1) := by decide +kernel
theorem dX2_sweepUpTo_91 : decode cX2_sweepUpTo 91 = .ok (.iinc 3 1, 3) := by decide +kernel
theorem dX2_sweepUpTo_94 : decode cX2_sweepUpTo 94 = .ok (.iinc 4 1, 3) := by decide +kernel
theorem dX2_sweepUpTo_97 : decode cX2_sweepUpTo 97 = .ok (.goto (-92), 3) := by decide +kernel
theorem dX2_sweepUpTo_100 : decode cX2_sweepUpTo 100 = .ok (.iload_n 3, 1) := by decide +kernel
theorem dX2_sweepUpTo_101 : decode cX2_sweepUpTo 101 = .ok (.ireturn, 1) := by decide +kernel
theorem dX2_addToChecksum_0 : decode cX2_addToChecksum 0 = .ok (.lload_n 1, 1) := by decide +kernel
theorem dX2_addToChecksum_1 : decode cX2_addToChecksum 1 = .ok (.lstore_n 3, 1) := by decide +kernel
theorem dX2_addToChecksum_2 : decode cX2_addToChecksum 2 = .ok (.iconst 0, 1) := by decide +kernel
theorem dX2_addToChecksum_3 : decode cX2_addToChecksum 3 = .ok (.istore 5, 2) := by decide +kernel
theorem dX2_addToChecksum_5 : decode cX2_addToChecksum 5 = .ok (.iload 5, 2) := by decide +kernel
theorem dX2_addToChecksum_7 : decode cX2_addToChecksum 7 = .ok (.bipush 10, 2) := by decide +kernel
theorem dX2_addToChecksum_9 : decode cX2_addToChecksum 9 = .ok (.if_icmp .ge 23, 3) := by decide +kernel
theorem dX2_addToChecksum_12 : decode cX2_addToChecksum 12 = .ok (.ldc2_w 95, 3) := by decide +kernel
theorem dX2_addToChecksum_15 : decode cX2_addToChecksum 15 = .ok (.lload_n 3, 1) := by decide +kernel
theorem dX2_addToChecksum_16 : decode cX2_addToChecksum 16 = .ok (.lmul, 1) := by decide +kernel
theorem dX2_addToChecksum_17 : decode cX2_addToChecksum 17 = .ok (.aload_n 0, 1) := by decide +kernel
theorem dX2_addToChecksum_18 : decode cX2_addToChecksum 18 = .ok (.getfield 9, 3) := by decide +kernel
theorem dX2_addToChecksum_21 : decode cX2_addToChecksum 21 = .ok (.iload 5, 2) := by decide +kernel
theorem dX2_addToChecksum_23 : decode cX2_addToChecksum 23 = .ok (.laload, 1) := by decide +kernel
theorem dX2_addToChecksum_24 : decode cX2_addToChecksum 24 = .ok (.ladd, 1) := by decide +kernel
theorem dX2_addToChecksum_25 : decode cX2_addToChecksum 25 = .ok (.lstore_n 3, 1) := by decide +kernel
theorem dX2_addToChecksum_26 : decode cX2_addToChecksum 26 = .ok (.iinc 5 1, 3) := by decide +kernel
theorem dX2_addToChecksum_29 : decode cX2_addToChecksum 29 = .ok (.goto (-24), 3) := by decide +kernel
theorem dX2_addToChecksum_32 : decode cX2_addToChecksum 32 = .ok (.ldc2_w 95, 3) := by decide +kernel
theorem dX2_addToChecksum_35 : decode cX2_addToChecksum 35 = .ok (.lload_n 3, 1) := by decide +kernel
theorem dX2_addToChecksum_36 : decode cX2_addToChecksum 36 = .ok (.lmul, 1) := by decide +kernel
theorem dX2_addToChecksum_37 : decode cX2_addToChecksum 37 = .ok (.aload_n 0, 1) := by decide +kernel
theorem dX2_addToChecksum_38 : decode cX2_addToChecksum 38 = .ok (.getfield 21, 3) := by decide +kernel
theorem dX2_addToChecksum_41 : decode cX2_addToChecksum 41 = .ok (.ladd, 1) := by decide +kernel
theorem dX2_addToChecksum_42 : decode cX2_addToChecksum 42 = .ok (.lstore_n 3, 1) := by decide +kernel
theorem dX2_addToChecksum_43 : decode cX2_addToChecksum 43 = .ok (.ldc2_w 95, 3) := by decide +kernel
theorem dX2_addToChecksum_46 : decode cX2_addToChecksum 46 = .ok (.lload_n 3, 1) := by decide +kernel
theorem dX2_addToChecksum_47 : decode cX2_addToChecksum 47 = .ok (.lmul, 1) := by decide +kernel
theorem dX2_addToChecksum_48 : decode cX2_addToChecksum 48 = .ok (.aload_n 0, 1) := by decide +kernel
theorem dX2_addToChecksum_49 : decode cX2_addToChecksum 49 = .ok (.getfield 25, 3) := by decide +kernel
theorem dX2_addToChecksum_52 : decode cX2_addToChecksum 52 = .ok (.ladd, 1) := by decide +kernel
theorem dX2_addToChecksum_53 : decode cX2_addToChecksum 53 = .ok (.lreturn, 1) := by decide +kernel
theorem dX3_init_0 : decode cX3_init 0 = .ok (.aload_n 0, 1) := by decide +kernel
theorem dX3_init_1 : decode cX3_init 1 = .ok (.invokespecial 3, 3) := by decide +kernel
theorem dX3_init_4 : decode cX3_init 4 = .ok (.aload_n 0, 1) := by decide +kernel
theorem dX3_init_5 : decode cX3_init 5 = .ok (.bipush 8, 2) := by decide +kernel
theorem dX3_init_7 : decode cX3_init 7 = .ok (.anewarray 9, 3) := by decide +kernel
theorem dX3_init_10 : decode cX3_init 10 = .ok (.putfield 11, 3) := by decide +kernel
theorem dX3_init_13 : decode cX3_init 13 = .ok (.iconst 0, 1) := by decide +kernel
theorem dX3_init_14 : decode cX3_init 14 = .ok (.istore_n 1, 1) := by decide +kernel
theorem dX3_init_15 : decode cX3_init 15 = .ok (.iload_n 1, 1) := by decide +kernel
theorem dX3_init_16 : decode cX3_init 16 = .ok (.bipush 8, 2) := by decide +kernel
theorem dX3_init_18 : decode cX3_init 18 = .ok (.if_icmp .ge 22, 3) := by decide +kernel
theorem dX3_init_21 : decode cX3_init 21 = .ok (.aload_n 0, 1) := by decide +kernel
theorem dX3_init_22 : decode cX3_init 22 = .ok (.getfield 11, 3) := by decide +kernel
theorem dX3_init_25 : decode cX3_init 25 = .ok (.iload_n 1, 1) := by decide +kernel
theorem dX3_init_26 : decode cX3_init 26 = .ok (.new 9, 3) := by decide +kernel
theorem dX3_init_29 : decode cX3_init 29 = .ok (.dup, 1) := by decide +kernel
theorem dX3_init_30 : decode cX3_init 30 = .ok (.invokespecial 17, 3) := by decide +kernel
theorem dX3_init_33 : decode cX3_init 33 = .ok (.aastore, 1) := by decide +kernel
theorem dX3_init_34 : decode cX3_init 34 = .ok (.iinc 1 1, 3) := by decide +kernel
theorem dX3_init_37 : decode cX3_init 37 = .ok (.goto (-22), 3) := by decide +kernel
theorem dX3_init_40 : decode cX3_init 40 = .ok (.return_, 1) := by decide +kernel
theorem dX3_has_0 : decode cX3_has 0 = .ok (.iload_n 1, 1) := by decide +kernel
theorem dX3_has_1 : decode cX3_has 1 = .ok (.ifCond .lt 25, 3) := by decide +kernel
theorem dX3_has_4 : decode cX3_has 4 = .ok (.iload_n 1, 1) := by decide +kernel
theorem dX3_has_5 : decode cX3_has 5 = .ok (.bipush 8, 2) := by decide +kernel
theorem dX3_has_7 : decode cX3_has 7 = .ok (.if_icmp .ge 19, 3) := by decide +kernel
theorem dX3_has_10 : decode cX3_has 10 = .ok (.aload_n 0, 1) := by decide +kernel
theorem dX3_has_11 : decode cX3_has 11 = .ok (.getfield 18, 3) := by decide +kernel
theorem dX3_has_14 : decode cX3_has 14 = .ok (.iload_n 1, 1) := by decide +kernel
theorem dX3_has_15 : decode cX3_has 15 = .ok (.ishr, 1) := by decide +kernel
theorem dX3_has_16 : decode cX3_has 16 = .ok (.iconst 1, 1) := by decide +kernel
theorem dX3_has_17 : decode cX3_has 17 = .ok (.iand, 1) := by decide +kernel
theorem dX3_has_18 : decode cX3_has 18 = .ok (.iconst 1, 1) := by decide +kernel
theorem dX3_has_19 : decode cX3_has 19 = .ok (.if_icmp .ne 7, 3) := by decide +kernel
theorem dX3_has_22 : decode cX3_has 22 = .ok (.iconst 1, 1) := by decide +kernel
theorem dX3_has_23 : decode cX3_has 23 = .ok (.goto 4, 3) := by decide +kernel
theorem dX3_has_26 : decode cX3_has 26 = .ok (.iconst 0, 1) := by decide +kernel
theorem dX3_has_27 : decode cX3_has 27 = .ok (.ireturn, 1) := by decide +kernel
theorem dX3_count_0 : decode cX3_count 0 = .ok (.aload_n 0, 1) := by decide +kernel
theorem dX3_count_1 : decode cX3_count 1 = .ok (.getfield 18, 3) := by decide +kernel
theorem dX3_count_4 : decode cX3_count 4 = .ok (.invokestatic 22, 3) := by decide +kernel
theorem dX3_count_7 : decode cX3_count 7 = .ok (.ireturn, 1) := by decide +kernel
theorem dX3_define_0 : decode cX3_define 0 = .ok (.iload_n 1, 1) := by decide +kernel
theorem dX3_define_1 : decode cX3_define 1 = .ok (.ifCond .lt 31, 3) := by decide +kernel
theorem dX3_define_4 : decode cX3_define 4 = .ok (.iload_n 1, 1) := by decide +kernel
theorem dX3_define_5 : decode cX3_define 5 = .ok (.bipush 8, 2) := by decide +kernel
theorem dX3_define_7 : decode cX3_define 7 = .ok (.if_icmp .ge 25, 3) := by decide +kernel
theorem dX3_define_10 : decode cX3_define 10 = .ok (.aload_n 0, 1) := by decide +kernel
theorem dX3_define_11 : decode cX3_define 11 = .ok (.getfield 11, 3) := by decide +kernel
theorem dX3_define_14 : decode cX3_define 14 = .ok (.iload_n 1, 1) := by decide +kernel
theorem dX3_define_15 : decode cX3_define 15 = .ok (.aaload, 1) := by decide +kernel
theorem dX3_define_16 : decode cX3_define 16 = .ok (.aload_n 2, 1) := by decide +kernel
theorem dX3_define_17 : decode cX3_define 17 = .ok (.invokevirtual 28, 3) := by decide +kernel
theorem dX3_define_20 : decode cX3_define 20 = .ok (.aload_n 0, 1) := by decide +kernel
theorem dX3_define_21 : decode cX3_define 21 = .ok (.dup, 1) := by decide +kernel
theorem dX3_define_22 : decode cX3_define 22 = .ok (.getfield 18, 3) := by decide +kernel
theorem dX3_define_25 : decode cX3_define 25 = .ok (.iconst 1, 1) := by decide +kernel
theorem dX3_define_26 : decode cX3_define 26 = .ok (.iload_n 1, 1) := by decide +kernel
theorem dX3_define_27 : decode cX3_define 27 = .ok (.ishl, 1) := by decide +kernel
theorem dX3_define_28 : decode cX3_define 28 = .ok (.ior, 1) := by decide +kernel
theorem dX3_define_29 : decode cX3_define 29 = .ok (.putfield 18, 3) := by decide +kernel
theorem dX3_define_32 : decode cX3_define 32 = .ok (.return_, 1) := by decide +kernel
theorem dX3_remove_0 : decode cX3_remove 0 = .ok (.iload_n 1, 1) := by decide +kernel
theorem dX3_remove_1 : decode cX3_remove 1 = .ok (.ifCond .lt 23, 3) := by decide +kernel
theorem dX3_remove_4 : decode cX3_remove 4 = .ok (.iload_n 1, 1) := by decide +kernel
theorem dX3_remove_5 : decode cX3_remove 5 = .ok (.bipush 8, 2) := by decide +kernel
theorem dX3_remove_7 : decode cX3_remove 7 = .ok (.if_icmp .ge 17, 3) := by decide +kernel
theorem dX3_remove_10 : decode cX3_remove 10 = .ok (.aload_n 0, 1) := by decide +kernel
theorem dX3_remove_11 : decode cX3_remove 11 = .ok (.dup, 1) := by decide +kernel
theorem dX3_remove_12 : decode cX3_remove 12 = .ok (.getfield 18, 3) := by decide +kernel
theorem dX3_remove_15 : decode cX3_remove 15 = .ok (.iconst 1, 1) := by decide +kernel
theorem dX3_remove_16 : decode cX3_remove 16 = .ok (.iload_n 1, 1) := by decide +kernel
theorem dX3_remove_17 : decode cX3_remove 17 = .ok (.ishl, 1) := by decide +kernel
theorem dX3_remove_18 : decode cX3_remove 18 = .ok (.iconst (-1), 1) := by decide +kernel
theorem dX3_remove_19 : decode cX3_remove 19 = .ok (.ixor, 1) := by decide +kernel
theorem dX3_remove_20 : decode cX3_remove 20 = .ok (.iand, 1) := by decide +kernel
theorem dX3_remove_21 : decode cX3_remove 21 = .ok (.putfield 18, 3) := by decide +kernel
theorem dX3_remove_24 : decode cX3_remove 24 = .ok (.return_, 1) := by decide +kernel
theorem dX3_copyFrom_0 : decode cX3_copyFrom 0 = .ok (.aload_n 0, 1) := by decide +kernel
theorem dX3_copyFrom_1 : decode cX3_copyFrom 1 = .ok (.aload_n 1, 1) := by decide +kernel
theorem dX3_copyFrom_2 : decode cX3_copyFrom 2 = .ok (.getfield 18, 3) := by decide +kernel
theorem dX3_copyFrom_5 : decode cX3_copyFrom 5 = .ok (.putfield 18, 3) := by decide +kernel
theorem dX3_copyFrom_8 : decode cX3_copyFrom 8 = .ok (.iconst 0, 1) := by decide +kernel
theorem dX3_copyFrom_9 : decode cX3_copyFrom 9 = .ok (.istore_n 2, 1) := by decide +kernel
theorem dX3_copyFrom_10 : decode cX3_copyFrom 10 = .ok (.iload_n 2, 1) := by decide +kernel
theorem dX3_copyFrom_11 : decode cX3_copyFrom 11 = .ok (.bipush 8, 2) := by decide +kernel
theorem dX3_copyFrom_13 : decode cX3_copyFrom 13 = .ok (.if_icmp .ge 24, 3) := by decide +kernel
theorem dX3_copyFrom_16 : decode cX3_copyFrom 16 = .ok (.aload_n 0, 1) := by decide +kernel
theorem dX3_copyFrom_17 : decode cX3_copyFrom 17 = .ok (.getfield 11, 3) := by decide +kernel
theorem dX3_copyFrom_20 : decode cX3_copyFrom 20 = .ok (.iload_n 2, 1) := by decide +kernel
theorem dX3_copyFrom_21 : decode cX3_copyFrom 21 = .ok (.aaload, 1) := by decide +kernel
theorem dX3_copyFrom_22 : decode cX3_copyFrom 22 = .ok (.aload_n 1, 1) := by decide +kernel
theorem dX3_copyFrom_23 : decode cX3_copyFrom 23 = .ok (.getfield 11, 3) := by decide +kernel
theorem dX3_copyFrom_26 : decode cX3_copyFrom 26 = .ok (.iload_n 2, 1) := by decide +kernel
theorem dX3_copyFrom_27 : decode cX3_copyFrom 27 = .ok (.aaload, 1) := by decide +kernel
theorem dX3_copyFrom_28 : decode cX3_copyFrom 28 = .ok (.invokevirtual 28, 3) := by decide +kernel
theorem dX3_copyFrom_31 : decode cX3_copyFrom 31 = .ok (.iinc 2 1, 3) := by decide +kernel
theorem dX3_copyFrom_34 : decode cX3_copyFrom 34 = .ok (.goto (-24), 3) := by decide +kernel
theorem dX3_copyFrom_37 : decode cX3_copyFrom 37 = .ok (.return_, 1) := by decide +kernel
theorem dX4_init_0 : decode cX4_init 0 = .ok (.aload_n 0, 1) := by decide +kernel
theorem dX4_init_1 : decode cX4_init 1 = .ok (.invokespecial 5, 3) := by decide +kernel
theorem dX4_init_4 : decode cX4_init 4 = .ok (.aload_n 0, 1) := by decide +kernel
theorem dX4_init_5 : decode cX4_init 5 = .ok (.new 11, 3) := by decide +kernel
theorem dX4_init_8 : decode cX4_init 8 = .ok (.dup, 1) := by decide +kernel
theorem dX4_init_9 : decode cX4_init 9 = .ok (.invokespecial 13, 3) := by decide +kernel
theorem dX4_init_12 : decode cX4_init 12 = .ok (.putfield 14, 3) := by decide +kernel
theorem dX4_init_15 : decode cX4_init 15 = .ok (.aload_n 0, 1) := by decide +kernel
theorem dX4_init_16 : decode cX4_init 16 = .ok (.new 18, 3) := by decide +kernel
theorem dX4_init_19 : decode cX4_init 19 = .ok (.dup, 1) := by decide +kernel
theorem dX4_init_20 : decode cX4_init 20 = .ok (.invokespecial 20, 3) := by decide +kernel
theorem dX4_init_23 : decode cX4_init 23 = .ok (.putfield 21, 3) := by decide +kernel
theorem dX4_init_26 : decode cX4_init 26 = .ok (.aload_n 0, 1) := by decide +kernel
theorem dX4_init_27 : decode cX4_init 27 = .ok (.new 25, 3) := by decide +kernel
theorem dX4_init_30 : decode cX4_init 30 = .ok (.dup, 1) := by decide +kernel
theorem dX4_init_31 : decode cX4_init 31 = .ok (.invokespecial 27, 3) := by decide +kernel
theorem dX4_init_34 : decode cX4_init 34 = .ok (.putfield 28, 3) := by decide +kernel
theorem dX4_init_37 : decode cX4_init 37 = .ok (.aload_n 0, 1) := by decide +kernel
theorem dX4_init_38 : decode cX4_init 38 = .ok (.iconst 5, 1) := by decide +kernel
theorem dX4_init_39 : decode cX4_init 39 = .ok (.anewarray 32, 3) := by decide +kernel
theorem dX4_init_42 : decode cX4_init 42 = .ok (.putfield 34, 3) := by decide +kernel
theorem dX4_init_45 : decode cX4_init 45 = .ok (.aload_n 0, 1) := by decide +kernel
theorem dX4_init_46 : decode cX4_init 46 = .ok (.iconst 5, 1) := by decide +kernel
theorem dX4_init_47 : decode cX4_init 47 = .ok (.anewarray 32, 3) := by decide +kernel
theorem dX4_init_50 : decode cX4_init 50 = .ok (.putfield 38, 3) := by decide +kernel
theorem dX4_init_53 : decode cX4_init 53 = .ok (.aload_n 0, 1) := by decide +kernel
theorem dX4_init_54 : decode cX4_init 54 = .ok (.iconst 5, 1) := by decide +kernel
theorem dX4_init_55 : decode cX4_init 55 = .ok (.anewarray 32, 3) := by decide +kernel
theorem dX4_init_58 : decode cX4_init 58 = .ok (.putfield 41, 3) := by decide +kernel
theorem dX4_init_61 : decode cX4_init 61 = .ok (.aload_n 0, 1) := by decide +kernel
theorem dX4_init_62 : decode cX4_init 62 = .ok (.iconst 5, 1) := by decide +kernel
theorem dX4_init_63 : decode cX4_init 63 = .ok (.anewarray 32, 3) := by decide +kernel
theorem dX4_init_66 : decode cX4_init 66 = .ok (.putfield 44, 3) := by decide +kernel
theorem dX4_init_69 : decode cX4_init 69 = .ok (.iconst 0, 1) := by decide +kernel
theorem dX4_init_70 : decode cX4_init 70 = .ok (.istore_n 1, 1) := by decide +kernel
theorem dX4_init_71 : decode cX4_init 71 = .ok (.iload_n 1, 1) := by decide +kernel
theorem dX4_init_72 : decode cX4_init 72 = .ok (.iconst 5, 1) := by decide +kernel
theorem dX4_init_73 : decode cX4_init 73 = .ok (.if_icmp .ge 61, 3) := by decide +kernel
theorem dX4_init_76 : decode cX4_init 76 = .ok (.aload_n 0, 1) := by decide +kernel
theorem dX4_init_77 : decode cX4_init 77 = .ok (.getfield 34, 3) := by decide +kernel
theorem dX4_init_80 : decode cX4_init 80 = .ok (.iload_n 1, 1) := by decide +kernel
theorem dX4_init_81 : decode cX4_init 81 = .ok (.new 32, 3) := by decide +kernel
theorem dX4_init_84 : decode cX4_init 84 = .ok (.dup, 1) := by decide +kernel
theorem dX4_init_85 : decode cX4_init 85 = .ok (.invokespecial 47, 3) := by decide +kernel
theorem dX4_init_88 : decode cX4_init 88 = .ok (.aastore, 1) := by decide +kernel
theorem dX4_init_89 : decode cX4_init 89 = .ok (.aload_n 0, 1) := by decide +kernel
theorem dX4_init_90 : decode cX4_init 90 = .ok (.getfield 38, 3) := by decide +kernel
theorem dX4_init_93 : decode cX4_init 93 = .ok (.iload_n 1, 1) := by decide +kernel
theorem dX4_init_94 : decode cX4_init 94 = .ok (.new 32, 3) := by decide +kernel
theorem dX4_init_97 : decode cX4_init 97 = .ok (.dup, 1) := by decide +kernel
theorem dX4_init_98 : decode cX4_init 98 = .ok (.invokespecial 47, 3) := by decide +kernel
theorem dX4_init_101 : decode cX4_init 101 = .ok (.aastore, 1) := by decide +kernel
theorem dX4_init_102 : decode cX4_init 102 = .ok (.aload_n 0, 1) := by decide +kernel
theorem dX4_init_103 : decode cX4_init 103 = .ok (.getfield 41, 3) := by decide +kernel
theorem dX4_init_106 : decode cX4_init 106 = .ok (.iload_n 1, 1) := by decide +kernel
theorem dX4_init_107 : decode cX4_init 107 = .ok (.new 32, 3) := by decide +kernel
theorem dX4_init_110 : decode cX4_init 110 = .ok (.dup, 1) := by decide +kernel
theorem dX4_init_111 : decode cX4_init 111 = .ok (.invokespecial 47, 3) := by decide +kernel
theorem dX4_init_114 : decode cX4_init 114 = .ok (.aastore, 1) := by decide +kernel
theorem dX4_init_115 : decode cX4_init 115 = .ok (.aload_n 0, 1) := by decide +kernel
theorem dX4_init_116 : decode cX4_init 116 = .ok (.getfield 44, 3) := by decide +kernel
theorem dX4_init_119 : decode cX4_init 119 = .ok (.iload_n 1, 1) := by decide +kernel
theorem dX4_init_120 : decode cX4_init 120 = .ok (.new 32, 3) := by decide +kernel
theorem dX4_init_123 : decode cX4_init 123 = .ok (.dup, 1) := by decide +kernel
theorem dX4_init_124 : decode cX4_init 124 = .ok (.invokespecial 47, 3) := by decide +kernel
theorem dX4_init_127 : decode cX4_init 127 = .ok (.aastore, 1) := by decide +kernel
theorem dX4_init_128 : decode cX4_init 128 = .ok (.iinc 1 1, 3) := by decide +kernel
theorem dX4_init_131 : decode cX4_init 131 = .ok (.goto (-60), 3) := by decide +kernel
theorem dX4_init_134 : decode cX4_init 134 = .ok (.return_, 1) := by decide +kernel
theorem dX4_readSetup_0 : decode cX4_readSetup 0 = .ok (.aload_n 0, 1) := by decide +kernel
theorem dX4_readSetup_1 : decode cX4_readSetup 1 = .ok (.getfield 21, 3) := by decide +kernel
theorem dX4_readSetup_4 : decode cX4_readSetup 4 = .ok (.iconst 0, 1) := by decide +kernel
theorem dX4_readSetup_5 : decode cX4_readSetup 5 = .ok (.putfield 48, 3) := by decide +kernel
theorem dX4_readSetup_8 : decode cX4_readSetup 8 = .ok (.aload_n 0, 1) := by decide +kernel
theorem dX4_readSetup_9 : decode cX4_readSetup 9 = .ok (.getfield 14, 3) := by decide +kernel
theorem dX4_readSetup_12 : decode cX4_readSetup 12 = .ok (.iload_n 1, 1) := by decide +kernel
theorem dX4_readSetup_13 : decode cX4_readSetup 13 = .ok (.invokevirtual 52, 3) := by decide +kernel
theorem dX4_readSetup_16 : decode cX4_readSetup 16 = .ok (.aload_n 0, 1) := by decide +kernel
theorem dX4_readSetup_17 : decode cX4_readSetup 17 = .ok (.getfield 14, 3) := by decide +kernel
theorem dX4_readSetup_20 : decode cX4_readSetup 20 = .ok (.ldc 56, 2) := by decide +kernel
theorem dX4_readSetup_22 : decode cX4_readSetup 22 = .ok (.invokevirtual 58, 3) := by decide +kernel
theorem dX4_readSetup_25 : decode cX4_readSetup 25 = .ok (.ifCond .ne 10, 3) := by decide +kernel
theorem dX4_readSetup_28 : decode cX4_readSetup 28 = .ok (.aload_n 0, 1) := by decide +kernel
theorem dX4_readSetup_29 : decode cX4_readSetup 29 = .ok (.bipush (-2), 2) := by decide +kernel
theorem dX4_readSetup_31 : decode cX4_readSetup 31 = .ok (.invokevirtual 62, 3) := by decide +kernel
theorem dX4_readSetup_34 : decode cX4_readSetup 34 = .ok (.ireturn, 1) := by decide +kernel
theorem dX4_readSetup_35 : decode cX4_readSetup 35 = .ok (.aload_n 0, 1) := by decide +kernel
theorem dX4_readSetup_36 : decode cX4_readSetup 36 = .ok (.getfield 14, 3) := by decide +kernel
theorem dX4_readSetup_39 : decode cX4_readSetup 39 = .ok (.invokevirtual 66, 3) := by decide +kernel
theorem dX4_readSetup_42 : decode cX4_readSetup 42 = .ok (.aload_n 0, 1) := by decide +kernel
theorem dX4_readSetup_43 : decode cX4_readSetup 43 = .ok (.bipush 59, 2) := by decide +kernel
theorem dX4_readSetup_45 : decode cX4_readSetup 45 = .ok (.invokevirtual 69, 3) := by decide +kernel
theorem dX4_readSetup_48 : decode cX4_readSetup 48 = .ok (.ifCond .ne 5, 3) := by decide +kernel
theorem dX4_readSetup_51 : decode cX4_readSetup 51 = .ok (.iconst 0, 1) := by decide +kernel
theorem dX4_readSetup_52 : decode cX4_readSetup 52 = .ok (.ireturn, 1) := by decide +kernel
theorem dX4_readSetup_53 : decode cX4_readSetup 53 = .ok (.iconst 0, 1) := by decide +kernel
theorem dX4_readSetup_54 : decode cX4_readSetup 54 = .ok (.istore_n 2, 1) := by decide +kernel
theorem dX4_readSetup_55 : decode cX4_readSetup 55 = .ok (.iload_n 2, 1) := by decide +kernel
theorem dX4_readSetup_56 : decode cX4_readSetup 56 = .ok (.sipush 700, 3) := by decide +kernel
theorem dX4_readSetup_59 : decode cX4_readSetup 59 = .ok (.if_icmp .ge 94, 3) := by decide +kernel
theorem dX4_readSetup_62 : decode cX4_readSetup 62 = .ok (.aload_n 0, 1) := by decide +kernel
theorem dX4_readSetup_63 : decode cX4_readSetup 63 = .ok (.getfield 14, 3) := by decide +kernel
theorem dX4_readSetup_66 : decode cX4_readSetup 66 = .ok (.getfield 72, 3) := by decide +kernel
theorem dX4_readSetup_69 : decode cX4_readSetup 69 = .ok (.ifCond .lt 84, 3) := by decide +kernel
theorem dX4_readSetup_72 : decode cX4_readSetup 72 = .ok (.aload_n 0, 1) := by decide +kernel
theorem dX4_readSetup_73 : decode cX4_readSetup 73 = .ok (.getfield 14, 3) := by decide +kernel
theorem dX4_readSetup_76 : decode cX4_readSetup 76 = .ok (.invokevirtual 75, 3) := by decide +kernel
theorem dX4_readSetup_79 : decode cX4_readSetup 79 = .ok (.istore_n 3, 1) := by decide +kernel
theorem dX4_readSetup_80 : decode cX4_readSetup 80 = .ok (.iload_n 3, 1) := by decide +kernel
theorem dX4_readSetup_81 : decode cX4_readSetup 81 = .ok (.ifCond .ge 10, 3) := by decide +kernel
theorem dX4_readSetup_84 : decode cX4_readSetup 84 = .ok (.aload_n 0, 1) := by decide +kernel
theorem dX4_readSetup_85 : decode cX4_readSetup 85 = .ok (.bipush (-2), 2) := by decide +kernel
theorem dX4_readSetup_87 : decode cX4_readSetup 87 = .ok (.invokevirtual 62, 3) := by decide +kernel
theorem dX4_readSetup_90 : decode cX4_readSetup 90 = .ok (.ireturn, 1) := by decide +kernel
theorem dX4_readSetup_91 : decode cX4_readSetup 91 = .ok (.aload_n 0, 1) := by decide +kernel
theorem dX4_readSetup_92 : decode cX4_readSetup 92 = .ok (.getfield 14, 3) := by decide +kernel
theorem dX4_readSetup_95 : decode cX4_readSetup 95 = .ok (.invokevirtual 66, 3) := by decide +kernel
theorem dX4_readSetup_98 : decode cX4_readSetup 98 = .ok (.aload_n 0, 1) := by decide +kernel
theorem dX4_readSetup_99 : decode cX4_readSetup 99 = .ok (.bipush 61, 2) := by decide +kernel
theorem dX4_readSetup_101 : decode cX4_readSetup 101 = .ok (.invokevirtual 69, 3) := by decide +kernel
theorem dX4_readSetup_104 : decode cX4_readSetup 104 = .ok (.ifCond .eq 27, 3) := by decide +kernel
theorem dX4_readSetup_107 : decode cX4_readSetup 107 = .ok (.aload_n 0, 1) := by decide +kernel
theorem dX4_readSetup_108 : decode cX4_readSetup 108 = .ok (.iconst 0, 1) := by decide +kernel
theorem dX4_readSetup_109 : decode cX4_readSetup 109 = .ok (.invokevirtual 79, 3) := by decide +kernel
theorem dX4_readSetup_112 : decode cX4_readSetup 112 = .ok (.ifCond .eq 19, 3) := by decide +kernel
theorem dX4_readSetup_115 : decode cX4_readSetup 115 = .ok (.aload_n 0, 1) := by decide +kernel
theorem dX4_readSetup_116 : decode cX4_readSetup 116 = .ok (.invokevirtual 82, 3) := by decide +kernel
theorem dX4_readSetup_119 : decode cX4_readSetup 119 = .ok (.ifCond .eq 12, 3) := by decide +kernel
theorem dX4_readSetup_122 : decode cX4_readSetup 122 = .ok (.aload_n 0, 1) := by decide +kernel
theorem dX4_readSetup_123 : decode cX4_readSetup 123 = .ok (.bipush 59, 2) := by decide +kernel
theorem dX4_readSetup_125 : decode cX4_readSetup 125 = .ok (.invokevirtual 69, 3) := by decide +kernel
theorem dX4_readSetup_128 : decode cX4_readSetup 128 = .ok (.ifCond .ne 5, 3) := by decide +kernel
theorem dX4_readSetup_131 : decode cX4_readSetup 131 = .ok (.iconst 0, 1) := by decide +kernel
theorem dX4_readSetup_132 : decode cX4_readSetup 132 = .ok (.ireturn, 1) := by decide +kernel
theorem dX4_readSetup_133 : decode cX4_readSetup 133 = .ok (.aload_n 0, 1) := by decide +kernel
theorem dX4_readSetup_134 : decode cX4_readSetup 134 = .ok (.getfield 21, 3) := by decide +kernel
theorem dX4_readSetup_137 : decode cX4_readSetup 137 = .ok (.iload_n 3, 1) := by decide +kernel
theorem dX4_readSetup_138 : decode cX4_readSetup 138 = .ok (.aload_n 0, 1) := by decide +kernel
theorem dX4_readSetup_139 : decode cX4_readSetup 139 = .ok (.getfield 34, 3) := by decide +kernel
theorem dX4_readSetup_142 : decode cX4_readSetup 142 = .ok (.iconst 0, 1) := by decide +kernel
theorem dX4_readSetup_143 : decode cX4_readSetup 143 = .ok (.aaload, 1) := by decide +kernel
theorem dX4_readSetup_144 : decode cX4_readSetup 144 = .ok (.invokevirtual 86, 3) := by decide +kernel
theorem dX4_readSetup_147 : decode cX4_readSetup 147 = .ok (.iinc 2 1, 3) := by decide +kernel
theorem dX4_readSetup_150 : decode cX4_readSetup 150 = .ok (.goto (-95), 3) := by decide +kernel
theorem dX4_readSetup_153 : decode cX4_readSetup 153 = .ok (.iconst 1, 1) := by decide +kernel
theorem dX4_readSetup_154 : decode cX4_readSetup 154 = .ok (.ireturn, 1) := by decide +kernel
theorem dX4_fail_0 : decode cX4_fail 0 = .ok (.aload_n 0, 1) := by decide +kernel
theorem dX4_fail_1 : decode cX4_fail 1 = .ok (.iload_n 1, 1) := by decide +kernel
theorem dX4_fail_2 : decode cX4_fail 2 = .ok (.putfield 90, 3) := by decide +kernel
theorem dX4_fail_5 : decode cX4_fail 5 = .ok (.iconst 0, 1) := by decide +kernel
theorem dX4_fail_6 : decode cX4_fail 6 = .ok (.ireturn, 1) := by decide +kernel
theorem dX4_take_0 : decode cX4_take 0 = .ok (.aload_n 0, 1) := by decide +kernel
theorem dX4_take_1 : decode cX4_take 1 = .ok (.getfield 14, 3) := by decide +kernel
theorem dX4_take_4 : decode cX4_take 4 = .ok (.getfield 72, 3) := by decide +kernel
theorem dX4_take_7 : decode cX4_take 7 = .ok (.iload_n 1, 1) := by decide +kernel
theorem dX4_take_8 : decode cX4_take 8 = .ok (.if_icmp .eq 10, 3) := by decide +kernel
theorem dX4_take_11 : decode cX4_take 11 = .ok (.aload_n 0, 1) := by decide +kernel
theorem dX4_take_12 : decode cX4_take 12 = .ok (.bipush (-2), 2) := by decide +kernel
theorem dX4_take_14 : decode cX4_take 14 = .ok (.invokevirtual 62, 3) := by decide +kernel
theorem dX4_take_17 : decode cX4_take 17 = .ok (.ireturn, 1) := by decide +kernel
theorem dX4_take_18 : decode cX4_take 18 = .ok (.aload_n 0, 1) := by decide +kernel
theorem dX4_take_19 : decode cX4_take 19 = .ok (.getfield 14, 3) := by decide +kernel
theorem dX4_take_22 : decode cX4_take 22 = .ok (.invokevirtual 66, 3) := by decide +kernel
theorem dX4_take_25 : decode cX4_take 25 = .ok (.iconst 1, 1) := by decide +kernel
theorem dX4_take_26 : decode cX4_take 26 = .ok (.ireturn, 1) := by decide +kernel
theorem dX4_open_0 : decode cX4_open 0 = .ok (.aload_n 0, 1) := by decide +kernel
theorem dX4_open_1 : decode cX4_open 1 = .ok (.getfield 14, 3) := by decide +kernel
theorem dX4_open_4 : decode cX4_open 4 = .ok (.getfield 72, 3) := by decide +kernel
theorem dX4_open_7 : decode cX4_open 7 = .ok (.iload_n 1, 1) := by decide +kernel
theorem dX4_open_8 : decode cX4_open 8 = .ok (.if_icmp .eq 10, 3) := by decide +kernel
theorem dX4_open_11 : decode cX4_open 11 = .ok (.aload_n 0, 1) := by decide +kernel
theorem dX4_open_12 : decode cX4_open 12 = .ok (.bipush (-2), 2) := by decide +kernel
theorem dX4_open_14 : decode cX4_open 14 = .ok (.invokevirtual 62, 3) := by decide +kernel
theorem dX4_open_17 : decode cX4_open 17 = .ok (.ireturn, 1) := by decide +kernel
theorem dX4_open_18 : decode cX4_open 18 = .ok (.iload_n 2, 1) := by decide +kernel
theorem dX4_open_19 : decode cX4_open 19 = .ok (.iconst 4, 1) := by decide +kernel
theorem dX4_open_20 : decode cX4_open 20 = .ok (.if_icmp .lt 10, 3) := by decide +kernel
theorem dX4_open_23 : decode cX4_open 23 = .ok (.aload_n 0, 1) := by decide +kernel
theorem dX4_open_24 : decode cX4_open 24 = .ok (.bipush (-6), 2) := by decide +kernel
theorem dX4_open_26 : decode cX4_open 26 = .ok (.invokevirtual 62, 3) := by decide +kernel
theorem dX4_open_29 : decode cX4_open 29 = .ok (.ireturn, 1) := by decide +kernel
theorem dX4_open_30 : decode cX4_open 30 = .ok (.aload_n 0, 1) := by decide +kernel
theorem dX4_open_31 : decode cX4_open 31 = .ok (.getfield 14, 3) := by decide +kernel
theorem dX4_open_34 : decode cX4_open 34 = .ok (.invokevirtual 66, 3) := by decide +kernel
theorem dX4_open_37 : decode cX4_open 37 = .ok (.iconst 1, 1) := by decide +kernel
theorem dX4_open_38 : decode cX4_open 38 = .ok (.ireturn, 1) := by decide +kernel
theorem dX4_readUncertainty_0 : decode cX4_readUncertainty 0 = .ok (.aload_n 0, 1) := by decide +kernel
theorem dX4_readUncertainty_1 : decode cX4_readUncertainty 1 = .ok (.getfield 14, 3) := by decide +kernel
theorem dX4_readUncertainty_4 : decode cX4_readUncertainty 4 = .ok (.getfield 72, 3) := by decide +kernel
theorem dX4_readUncertainty_7 : decode cX4_readUncertainty 7 = .ok (.bipush 35, 2) := by decide +kernel
theorem dX4_readUncertainty_9 : decode cX4_readUncertainty 9 = .ok (.if_icmp .eq 5, 3) := by decide +kernel
theorem dX4_readUncertainty_12 : decode cX4_readUncertainty 12 = .ok (.iconst 1, 1) := by decide +kernel
theorem dX4_readUncertainty_13 : decode cX4_readUncertainty 13 = .ok (.ireturn, 1) := by decide +kernel
theorem dX4_readUncertainty_14 : decode cX4_readUncertainty 14 = .ok (.aload_n 0, 1) := by decide +kernel
theorem dX4_readUncertainty_15 : decode cX4_readUncertainty 15 = .ok (.getfield 14, 3) := by decide +kernel
theorem dX4_readUncertainty_18 : decode cX4_readUncertainty 18 = .ok (.invokevirtual 66, 3) := by decide +kernel
theorem dX4_readUncertainty_21 : decode cX4_readUncertainty 21 = .ok (.aload_n 0, 1) := by decide +kernel
theorem dX4_readUncertainty_22 : decode cX4_readUncertainty 22 = .ok (.invokevirtual 93, 3) := by decide +kernel
theorem dX4_readUncertainty_25 : decode cX4_readUncertainty 25 = .ok (.ifCond .ne 5, 3) := by decide +kernel
theorem dX4_readUncertainty_28 : decode cX4_readUncertainty 28 = .ok (.iconst 0, 1) := by decide +kernel
theorem dX4_readUncertainty_29 : decode cX4_readUncertainty 29 = .ok (.ireturn, 1) := by decide +kernel
theorem dX4_readUncertainty_30 : decode cX4_readUncertainty 30 = .ok (.aload_n 0, 1) := by decide +kernel
theorem dX4_readUncertainty_31 : decode cX4_readUncertainty 31 = .ok (.getfield 34, 3) := by decide +kernel
theorem dX4_readUncertainty_34 : decode cX4_readUncertainty 34 = .ok (.iconst 0, 1) := by decide +kernel
theorem dX4_readUncertainty_35 : decode cX4_readUncertainty 35 = .ok (.aaload, 1) := by decide +kernel
theorem dX4_readUncertainty_36 : decode cX4_readUncertainty 36 = .ok (.aload_n 0, 1) := by decide +kernel
theorem dX4_readUncertainty_37 : decode cX4_readUncertainty 37 = .ok (.getfield 14, 3) := by decide +kernel
theorem dX4_readUncertainty_40 : decode cX4_readUncertainty 40 = .ok (.invokevirtual 96, 3) := by decide +kernel
theorem dX4_readUncertainty_43 : decode cX4_readUncertainty 43 = .ok (.i2l, 1) := by decide +kernel
theorem dX4_readUncertainty_44 : decode cX4_readUncertainty 44 = .ok (.invokevirtual 99, 3) := by decide +kernel
theorem dX4_readUncertainty_47 : decode cX4_readUncertainty 47 = .ok (.aload_n 0, 1) := by decide +kernel
theorem dX4_readUncertainty_48 : decode cX4_readUncertainty 48 = .ok (.getfield 14, 3) := by decide +kernel
theorem dX4_readUncertainty_51 : decode cX4_readUncertainty 51 = .ok (.invokevirtual 66, 3) := by decide +kernel
theorem dX4_readUncertainty_54 : decode cX4_readUncertainty 54 = .ok (.aload_n 0, 1) := by decide +kernel
theorem dX4_readUncertainty_55 : decode cX4_readUncertainty 55 = .ok (.getfield 34, 3) := by decide +kernel
theorem dX4_readUncertainty_58 : decode cX4_readUncertainty 58 = .ok (.iconst 0, 1) := by decide +kernel
theorem dX4_readUncertainty_59 : decode cX4_readUncertainty 59 = .ok (.aaload, 1) := by decide +kernel
theorem dX4_readUncertainty_60 : decode cX4_readUncertainty 60 = .ok (.invokevirtual 103, 3) := by decide +kernel
theorem dX4_readUncertainty_63 : decode cX4_readUncertainty 63 = .ok (.ifCond .ne 12, 3) := by decide +kernel
theorem dX4_readUncertainty_66 : decode cX4_readUncertainty 66 = .ok (.aload_n 0, 1) := by decide +kernel
theorem dX4_readUncertainty_67 : decode cX4_readUncertainty 67 = .ok (.bipush (-5), 2) := by decide +kernel
theorem dX4_readUncertainty_69 : decode cX4_readUncertainty 69 = .ok (.invokevirtual 62, 3) := by decide +kernel
theorem dX4_readUncertainty_72 : decode cX4_readUncertainty 72 = .ok (.ifCond .eq 7, 3) := by decide +kernel
theorem dX4_readUncertainty_75 : decode cX4_readUncertainty 75 = .ok (.iconst 1, 1) := by decide +kernel
theorem dX4_readUncertainty_76 : decode cX4_readUncertainty 76 = .ok (.goto 4, 3) := by decide +kernel
theorem dX4_readUncertainty_79 : decode cX4_readUncertainty 79 = .ok (.iconst 0, 1) := by decide +kernel
theorem dX4_readUncertainty_80 : decode cX4_readUncertainty 80 = .ok (.ireturn, 1) := by decide +kernel
theorem dX4_checkNumber_0 : decode cX4_checkNumber 0 = .ok (.aload_n 0, 1) := by decide +kernel
theorem dX4_checkNumber_1 : decode cX4_checkNumber 1 = .ok (.getfield 14, 3) := by decide +kernel
theorem dX4_checkNumber_4 : decode cX4_checkNumber 4 = .ok (.invokevirtual 106, 3) := by decide +kernel
theorem dX4_checkNumber_7 : decode cX4_checkNumber 7 = .ok (.ifCond .ne 10, 3) := by decide +kernel
theorem dX4_checkNumber_10 : decode cX4_checkNumber 10 = .ok (.aload_n 0, 1) := by decide +kernel
theorem dX4_checkNumber_11 : decode cX4_checkNumber 11 = .ok (.bipush (-2), 2) := by decide +kernel
theorem dX4_checkNumber_13 : decode cX4_checkNumber 13 = .ok (.invokevirtual 62, 3) := by decide +kernel
theorem dX4_checkNumber_16 : decode cX4_checkNumber 16 = .ok (.ireturn, 1) := by decide +kernel
theorem dX4_checkNumber_17 : decode cX4_checkNumber 17 = .ok (.aload_n 0, 1) := by decide +kernel
theorem dX4_checkNumber_18 : decode cX4_checkNumber 18 = .ok (.getfield 14, 3) := by decide +kernel
theorem dX4_checkNumber_21 : decode cX4_checkNumber 21 = .ok (.invokevirtual 96, 3) := by decide +kernel
theorem dX4_checkNumber_24 : decode cX4_checkNumber 24 = .ok (.ldc 109, 2) := by decide +kernel
theorem dX4_checkNumber_26 : decode cX4_checkNumber 26 = .ok (.if_icmp .le 12, 3) := by decide +kernel
theorem dX4_checkNumber_29 : decode cX4_checkNumber 29 = .ok (.aload_n 0, 1) := by decide +kernel
theorem dX4_checkNumber_30 : decode cX4_checkNumber 30 = .ok (.bipush (-3), 2) := by decide +kernel
theorem dX4_checkNumber_32 : decode cX4_checkNumber 32 = .ok (.invokevirtual 62, 3) := by decide +kernel
theorem dX4_checkNumber_35 : decode cX4_checkNumber 35 = .ok (.ifCond .eq 7, 3) := by decide +kernel
theorem dX4_checkNumber_38 : decode cX4_checkNumber 38 = .ok (.iconst 1, 1) := by decide +kernel
theorem dX4_checkNumber_39 : decode cX4_checkNumber 39 = .ok (.goto 4, 3) := by decide +kernel
theorem dX4_checkNumber_42 : decode cX4_checkNumber 42 = .ok (.iconst 0, 1) := by decide +kernel
theorem dX4_checkNumber_43 : decode cX4_checkNumber 43 = .ok (.ireturn, 1) := by decide +kernel
theorem dX4_readSum_0 : decode cX4_readSum 0 = .ok (.iload_n 1, 1) := by decide +kernel
theorem dX4_readSum_1 : decode cX4_readSum 1 = .ok (.ifCond .lt 8, 3) := by decide +kernel
theorem dX4_readSum_4 : decode cX4_readSum 4 = .ok (.iload_n 1, 1) := by decide +kernel
theorem dX4_readSum_5 : decode cX4_readSum 5 = .ok (.iconst 5, 1) := by decide +kernel
theorem dX4_readSum_6 : decode cX4_readSum 6 = .ok (.if_icmp .lt 10, 3) := by decide +kernel
theorem dX4_readSum_9 : decode cX4_readSum 9 = .ok (.aload_n 0, 1) := by decide +kernel
theorem dX4_readSum_10 : decode cX4_readSum 10 = .ok (.bipush (-6), 2) := by decide +kernel
theorem dX4_readSum_12 : decode cX4_readSum 12 = .ok (.invokevirtual 62, 3) := by decide +kernel
theorem dX4_readSum_15 : decode cX4_readSum 15 = .ok (.ireturn, 1) := by decide +kernel
theorem dX4_readSum_16 : decode cX4_readSum 16 = .ok (.aload_n 0, 1) := by decide +kernel
theorem dX4_readSum_17 : decode cX4_readSum 17 = .ok (.iload_n 1, 1) := by decide +kernel
theorem dX4_readSum_18 : decode cX4_readSum 18 = .ok (.invokevirtual 110, 3) := by decide +kernel
theorem dX4_readSum_21 : decode cX4_readSum 21 = .ok (.ifCond .ne 5, 3) := by decide +kernel
theorem dX4_readSum_24 : decode cX4_readSum 24 = .ok (.iconst 0, 1) := by decide +kernel
theorem dX4_readSum_25 : decode cX4_readSum 25 = .ok (.ireturn, 1) := by decide +kernel
theorem dX4_readSum_26 : decode cX4_readSum 26 = .ok (.aload_n 0, 1) := by decide +kernel
theorem dX4_readSum_27 : decode cX4_readSum 27 = .ok (.getfield 34, 3) := by decide +kernel
theorem dX4_readSum_30 : decode cX4_readSum 30 = .ok (.iload_n 1, 1) := by decide +kernel
theorem dX4_readSum_31 : decode cX4_readSum 31 = .ok (.aaload, 1) := by decide +kernel
theorem dX4_readSum_32 : decode cX4_readSum 32 = .ok (.astore_n 2, 1) := by decide +kernel
theorem dX4_readSum_33 : decode cX4_readSum 33 = .ok (.aload_n 2, 1) := by decide +kernel
theorem dX4_readSum_34 : decode cX4_readSum 34 = .ok (.aload_n 0, 1) := by decide +kernel
theorem dX4_readSum_35 : decode cX4_readSum 35 = .ok (.getfield 38, 3) := by decide +kernel
theorem dX4_readSum_38 : decode cX4_readSum 38 = .ok (.iload_n 1, 1) := by decide +kernel
theorem dX4_readSum_39 : decode cX4_readSum 39 = .ok (.aaload, 1) := by decide +kernel
theorem dX4_readSum_40 : decode cX4_readSum 40 = .ok (.invokevirtual 113, 3) := by decide +kernel
theorem dX4_readSum_43 : decode cX4_readSum 43 = .ok (.iconst 0, 1) := by decide +kernel
theorem dX4_readSum_44 : decode cX4_readSum 44 = .ok (.istore_n 3, 1) := by decide +kernel
theorem dX4_readSum_45 : decode cX4_readSum 45 = .ok (.iload_n 3, 1) := by decide +kernel
theorem dX4_readSum_46 : decode cX4_readSum 46 = .ok (.sipush 700, 3) := by decide +kernel
theorem dX4_readSum_49 : decode cX4_readSum 49 = .ok (.if_icmp .ge 121, 3) := by decide +kernel
theorem dX4_readSum_52 : decode cX4_readSum 52 = .ok (.aload_n 0, 1) := by decide +kernel
theorem dX4_readSum_53 : decode cX4_readSum 53 = .ok (.getfield 14, 3) := by decide +kernel
theorem dX4_readSum_56 : decode cX4_readSum 56 = .ok (.getfield 72, 3) := by decide +kernel
theorem dX4_readSum_59 : decode cX4_readSum 59 = .ok (.bipush 43, 2) := by decide +kernel
theorem dX4_readSum_61 : decode cX4_readSum 61 = .ok (.if_icmp .eq 15, 3) := by decide +kernel
theorem dX4_readSum_64 : decode cX4_readSum 64 = .ok (.aload_n 0, 1) := by decide +kernel
theorem dX4_readSum_65 : decode cX4_readSum 65 = .ok (.getfield 14, 3) := by decide +kernel
theorem dX4_readSum_68 : decode cX4_readSum 68 = .ok (.getfield 72, 3) := by decide +kernel
theorem dX4_readSum_71 : decode cX4_readSum 71 = .ok (.bipush 45, 2) := by decide +kernel
theorem dX4_readSum_73 : decode cX4_readSum 73 = .ok (.if_icmp .ne 97, 3) := by decide +kernel
theorem dX4_readSum_76 : decode cX4_readSum 76 = .ok (.aload_n 0, 1) := by decide +kernel
theorem dX4_readSum_77 : decode cX4_readSum 77 = .ok (.getfield 14, 3) := by decide +kernel
theorem dX4_readSum_80 : decode cX4_readSum 80 = .ok (.getfield 72, 3) := by decide +kernel
theorem dX4_readSum_83 : decode cX4_readSum 83 = .ok (.bipush 43, 2) := by decide +kernel
theorem dX4_readSum_85 : decode cX4_readSum 85 = .ok (.if_icmp .ne 7, 3) := by decide +kernel
theorem dX4_readSum_88 : decode cX4_readSum 88 = .ok (.iconst 1, 1) := by decide +kernel
theorem dX4_readSum_89 : decode cX4_readSum 89 = .ok (.goto 4, 3) := by decide +kernel
theorem dX4_readSum_92 : decode cX4_readSum 92 = .ok (.iconst 0, 1) := by decide +kernel
theorem dX4_readSum_93 : decode cX4_readSum 93 = .ok (.istore 4, 2) := by decide +kernel
theorem dX4_readSum_95 : decode cX4_readSum 95 = .ok (.aload_n 0, 1) := by decide +kernel
theorem dX4_readSum_96 : decode cX4_readSum 96 = .ok (.getfield 14, 3) := by decide +kernel
theorem dX4_readSum_99 : decode cX4_readSum 99 = .ok (.invokevirtual 66, 3) := by decide +kernel
theorem dX4_readSum_102 : decode cX4_readSum 102 = .ok (.aload_n 0, 1) := by decide +kernel
theorem dX4_readSum_103 : decode cX4_readSum 103 = .ok (.iload_n 1, 1) := by decide +kernel
theorem dX4_readSum_104 : decode cX4_readSum 104 = .ok (.invokevirtual 110, 3) := by decide +kernel
theorem dX4_readSum_107 : decode cX4_readSum 107 = .ok (.ifCond .ne 5, 3) := by decide +kernel
theorem dX4_readSum_110 : decode cX4_readSum 110 = .ok (.iconst 0, 1) := by decide +kernel
theorem dX4_readSum_111 : decode cX4_readSum 111 = .ok (.ireturn, 1) := by decide +kernel
theorem dX4_readSum_112 : decode cX4_readSum 112 = .ok (.iload 4, 2) := by decide +kernel
theorem dX4_readSum_114 : decode cX4_readSum 114 = .ok (.ifCond .eq 21, 3) := by decide +kernel
theorem dX4_readSum_117 : decode cX4_readSum 117 = .ok (.aload_n 0, 1) := by decide +kernel
theorem dX4_readSum_118 : decode cX4_readSum 118 = .ok (.getfield 28, 3) := by decide +kernel
theorem dX4_readSum_121 : decode cX4_readSum 121 = .ok (.aload_n 2, 1) := by decide +kernel
theorem dX4_readSum_122 : decode cX4_readSum 122 = .ok (.aload_n 2, 1) := by decide +kernel
theorem dX4_readSum_123 : decode cX4_readSum 123 = .ok (.aload_n 0, 1) := by decide +kernel
theorem dX4_readSum_124 : decode cX4_readSum 124 = .ok (.getfield 38, 3) := by decide +kernel
theorem dX4_readSum_127 : decode cX4_readSum 127 = .ok (.iload_n 1, 1) := by decide +kernel
theorem dX4_readSum_128 : decode cX4_readSum 128 = .ok (.aaload, 1) := by decide +kernel
theorem dX4_readSum_129 : decode cX4_readSum 129 = .ok (.invokevirtual 117, 3) := by decide +kernel
theorem dX4_readSum_132 : decode cX4_readSum 132 = .ok (.goto 18, 3) := by decide +kernel
theorem dX4_readSum_135 : decode cX4_readSum 135 = .ok (.aload_n 0, 1) := by decide +kernel
theorem dX4_readSum_136 : decode cX4_readSum 136 = .ok (.getfield 28, 3) := by decide +kernel
theorem dX4_readSum_139 : decode cX4_readSum 139 = .ok (.aload_n 2, 1) := by decide +kernel
theorem dX4_readSum_140 : decode cX4_readSum 140 = .ok (.aload_n 2, 1) := by decide +kernel
theorem dX4_readSum_141 : decode cX4_readSum 141 = .ok (.aload_n 0, 1) := by decide +kernel
theorem dX4_readSum_142 : decode cX4_readSum 142 = .ok (.getfield 38, 3) := by decide +kernel
theorem dX4_readSum_145 : decode cX4_readSum 145 = .ok (.iload_n 1, 1) := by decide +kernel
theorem dX4_readSum_146 : decode cX4_readSum 146 = .ok (.aaload, 1) := by decide +kernel
theorem dX4_readSum_147 : decode cX4_readSum 147 = .ok (.invokevirtual 121, 3) := by decide +kernel
theorem dX4_readSum_150 : decode cX4_readSum 150 = .ok (.istore 5, 2) := by decide +kernel
theorem dX4_readSum_152 : decode cX4_readSum 152 = .ok (.iload 5, 2) := by decide +kernel
theorem dX4_readSum_154 : decode cX4_readSum 154 = .ok (.ifCond .ne 10, 3) := by decide +kernel
theorem dX4_readSum_157 : decode cX4_readSum 157 = .ok (.aload_n 0, 1) := by decide +kernel
theorem dX4_readSum_158 : decode cX4_readSum 158 = .ok (.bipush (-5), 2) := by decide +kernel
theorem dX4_readSum_160 : decode cX4_readSum 160 = .ok (.invokevirtual 62, 3) := by decide +kernel
theorem dX4_readSum_163 : decode cX4_readSum 163 = .ok (.ireturn, 1) := by decide +kernel
theorem dX4_readSum_164 : decode cX4_readSum 164 = .ok (.iinc 3 1, 3) := by decide +kernel
theorem dX4_readSum_167 : decode cX4_readSum 167 = .ok (.goto (-122), 3) := by decide +kernel
theorem dX4_readSum_170 : decode cX4_readSum 170 = .ok (.iconst 1, 1) := by decide +kernel
theorem dX4_readSum_171 : decode cX4_readSum 171 = .ok (.ireturn, 1) := by decide +kernel
theorem dX4_readTerm_0 : decode cX4_readTerm 0 = .ok (.iload_n 1, 1) := by decide +kernel
theorem dX4_readTerm_1 : decode cX4_readTerm 1 = .ok (.ifCond .lt 8, 3) := by decide +kernel
theorem dX4_readTerm_4 : decode cX4_readTerm 4 = .ok (.iload_n 1, 1) := by decide +kernel
theorem dX4_readTerm_5 : decode cX4_readTerm 5 = .ok (.iconst 5, 1) := by decide +kernel
theorem dX4_readTerm_6 : decode cX4_readTerm 6 = .ok (.if_icmp .lt 10, 3) := by decide +kernel
theorem dX4_readTerm_9 : decode cX4_readTerm 9 = .ok (.aload_n 0, 1) := by decide +kernel
theorem dX4_readTerm_10 : decode cX4_readTerm 10 = .ok (.bipush (-6), 2) := by decide +kernel
theorem dX4_readTerm_12 : decode cX4_readTerm 12 = .ok (.invokevirtual 62, 3) := by decide +kernel
theorem dX4_readTerm_15 : decode cX4_readTerm 15 = .ok (.ireturn, 1) := by decide +kernel
theorem dX4_readTerm_16 : decode cX4_readTerm 16 = .ok (.aload_n 0, 1) := by decide +kernel
theorem dX4_readTerm_17 : decode cX4_readTerm 17 = .ok (.iload_n 1, 1) := by decide +kernel
theorem dX4_readTerm_18 : decode cX4_readTerm 18 = .ok (.invokevirtual 124, 3) := by decide +kernel
theorem dX4_readTerm_21 : decode cX4_readTerm 21 = .ok (.ifCond .ne 5, 3) := by decide +kernel
theorem dX4_readTerm_24 : decode cX4_readTerm 24 = .ok (.iconst 0, 1) := by decide +kernel
theorem dX4_readTerm_25 : decode cX4_readTerm 25 = .ok (.ireturn, 1) := by decide +kernel
theorem dX4_readTerm_26 : decode cX4_readTerm 26 = .ok (.aload_n 0, 1) := by decide +kernel
theorem dX4_readTerm_27 : decode cX4_readTerm 27 = .ok (.getfield 38, 3) := by decide +kernel
theorem dX4_readTerm_30 : decode cX4_readTerm 30 = .ok (.iload_n 1, 1) := by decide +kernel
theorem dX4_readTerm_31 : decode cX4_readTerm 31 = .ok (.aaload, 1) := by decide +kernel
theorem dX4_readTerm_32 : decode cX4_readTerm 32 = .ok (.astore_n 2, 1) := by decide +kernel
theorem dX4_readTerm_33 : decode cX4_readTerm 33 = .ok (.aload_n 2, 1) := by decide +kernel
theorem dX4_readTerm_34 : decode cX4_readTerm 34 = .ok (.aload_n 0, 1) := by decide +kernel
theorem dX4_readTerm_35 : decode cX4_readTerm 35 = .ok (.getfield 41, 3) := by decide +kernel
theorem dX4_readTerm_38 : decode cX4_readTerm 38 = .ok (.iload_n 1, 1) := by decide +kernel
theorem dX4_readTerm_39 : decode cX4_readTerm 39 = .ok (.aaload, 1) := by decide +kernel
theorem dX4_readTerm_40 : decode cX4_readTerm 40 = .ok (.invokevirtual 113, 3) := by decide +kernel
theorem dX4_readTerm_43 : decode cX4_readTerm 43 = .ok (.iconst 0, 1) := by decide +kernel
theorem dX4_readTerm_44 : decode cX4_readTerm 44 = .ok (.istore_n 3, 1) := by decide +kernel
theorem dX4_readTerm_45 : decode cX4_readTerm 45 = .ok (.iload_n 3, 1) := by decide +kernel
theorem dX4_readTerm_46 : decode cX4_readTerm 46 = .ok (.sipush 700, 3) := by decide +kernel
theorem dX4_readTerm_49 : decode cX4_readTerm 49 = .ok (.if_icmp .ge 63, 3) := by decide +kernel
theorem dX4_readTerm_52 : decode cX4_readTerm 52 = .ok (.aload_n 0, 1) := by decide +kernel
theorem dX4_readTerm_53 : decode cX4_readTerm 53 = .ok (.getfield 14, 3) := by decide +kernel
theorem dX4_readTerm_56 : decode cX4_readTerm 56 = .ok (.getfield 72, 3) := by decide +kernel
theorem dX4_readTerm_59 : decode cX4_readTerm 59 = .ok (.bipush 42, 2) := by decide +kernel
theorem dX4_readTerm_61 : decode cX4_readTerm 61 = .ok (.if_icmp .ne 51, 3) := by decide +kernel
theorem dX4_readTerm_64 : decode cX4_readTerm 64 = .ok (.aload_n 0, 1) := by decide +kernel
theorem dX4_readTerm_65 : decode cX4_readTerm 65 = .ok (.getfield 14, 3) := by decide +kernel
theorem dX4_readTerm_68 : decode cX4_readTerm 68 = .ok (.invokevirtual 66, 3) := by decide +kernel
theorem dX4_readTerm_71 : decode cX4_readTerm 71 = .ok (.aload_n 0, 1) := by decide +kernel
theorem dX4_readTerm_72 : decode cX4_readTerm 72 = .ok (.iload_n 1, 1) := by decide +kernel
theorem dX4_readTerm_73 : decode cX4_readTerm 73 = .ok (.invokevirtual 124, 3) := by decide +kernel
theorem dX4_readTerm_76 : decode cX4_readTerm 76 = .ok (.ifCond .ne 5, 3) := by decide +kernel
theorem dX4_readTerm_79 : decode cX4_readTerm 79 = .ok (.iconst 0, 1) := by decide +kernel
theorem dX4_readTerm_80 : decode cX4_readTerm 80 = .ok (.ireturn, 1) := by decide +kernel
theorem dX4_readTerm_81 : decode cX4_readTerm 81 = .ok (.aload_n 0, 1) := by decide +kernel
theorem dX4_readTerm_82 : decode cX4_readTerm 82 = .ok (.getfield 28, 3) := by decide +kernel
theorem dX4_readTerm_85 : decode cX4_readTerm 85 = .ok (.aload_n 2, 1) := by decide +kernel
theorem dX4_readTerm_86 : decode cX4_readTerm 86 = .ok (.aload_n 2, 1) := by decide +kernel
theorem dX4_readTerm_87 : decode cX4_readTerm 87 = .ok (.aload_n 0, 1) := by decide +kernel
theorem dX4_readTerm_88 : decode cX4_readTerm 88 = .ok (.getfield 41, 3) := by decide +kernel
theorem dX4_readTerm_91 : decode cX4_readTerm 91 = .ok (.iload_n 1, 1) := by decide +kernel
theorem dX4_readTerm_92 : decode cX4_readTerm 92 = .ok (.aaload, 1) := by decide +kernel
theorem dX4_readTerm_93 : decode cX4_readTerm 93 = .ok (.invokevirtual 127, 3) := by decide +kernel
theorem dX4_readTerm_96 : decode cX4_readTerm 96 = .ok (.ifCond .ne 10, 3) := by decide +kernel
theorem dX4_readTerm_99 : decode cX4_readTerm 99 = .ok (.aload_n 0, 1) := by decide +kernel
theorem dX4_readTerm_100 : decode cX4_readTerm 100 = .ok (.bipush (-5), 2) := by decide +kernel
theorem dX4_readTerm_102 : decode cX4_readTerm 102 = .ok (.invokevirtual 62, 3) := by decide +kernel
theorem dX4_readTerm_105 : decode cX4_readTerm 105 = .ok (.ireturn, 1) := by decide +kernel
theorem dX4_readTerm_106 : decode cX4_readTerm 106 = .ok (.iinc 3 1, 3) := by decide +kernel
theorem dX4_readTerm_109 : decode cX4_readTerm 109 = .ok (.goto (-64), 3) := by decide +kernel
theorem dX4_readTerm_112 : decode cX4_readTerm 112 = .ok (.iconst 1, 1) := by decide +kernel
theorem dX4_readTerm_113 : decode cX4_readTerm 113 = .ok (.ireturn, 1) := by decide +kernel
theorem dX4_readFactor_0 : decode cX4_readFactor 0 = .ok (.iload_n 1, 1) := by decide +kernel
theorem dX4_readFactor_1 : decode cX4_readFactor 1 = .ok (.ifCond .lt 8, 3) := by decide +kernel
theorem dX4_readFactor_4 : decode cX4_readFactor 4 = .ok (.iload_n 1, 1) := by decide +kernel
theorem dX4_readFactor_5 : decode cX4_readFactor 5 = .ok (.iconst 5, 1) := by decide +kernel
theorem dX4_readFactor_6 : decode cX4_readFactor 6 = .ok (.if_icmp .lt 10, 3) := by decide +kernel
theorem dX4_readFactor_9 : decode cX4_readFactor 9 = .ok (.aload_n 0, 1) := by decide +kernel
theorem dX4_readFactor_10 : decode cX4_readFactor 10 = .ok (.bipush (-6), 2) := by decide +kernel
theorem dX4_readFactor_12 : decode cX4_readFactor 12 = .ok (.invokevirtual 62, 3) := by decide +kernel
theorem dX4_readFactor_15 : decode cX4_readFactor 15 = .ok (.ireturn, 1) := by decide +kernel
theorem dX4_readFactor_16 : decode cX4_readFactor 16 = .ok (.aload_n 0, 1) := by decide +kernel
theorem dX4_readFactor_17 : decode cX4_readFactor 17 = .ok (.getfield 41, 3) := by decide +kernel
theorem dX4_readFactor_20 : decode cX4_readFactor 20 = .ok (.iload_n 1, 1) := by decide +kernel
theorem dX4_readFactor_21 : decode cX4_readFactor 21 = .ok (.aaload, 1) := by decide +kernel
theorem dX4_readFactor_22 : decode cX4_readFactor 22 = .ok (.astore_n 2, 1) := by decide +kernel
theorem dX4_readFactor_23 : decode cX4_readFactor 23 = .ok (.aload_n 0, 1) := by decide +kernel
theorem dX4_readFactor_24 : decode cX4_readFactor 24 = .ok (.getfield 14, 3) := by decide +kernel
theorem dX4_readFactor_27 : decode cX4_readFactor 27 = .ok (.ldc 130, 2) := by decide +kernel
theorem dX4_readFactor_29 : decode cX4_readFactor 29 = .ok (.invokevirtual 58, 3) := by decide +kernel
theorem dX4_readFactor_32 : decode cX4_readFactor 32 = .ok (.ifCond .ne 15, 3) := by decide +kernel
theorem dX4_readFactor_35 : decode cX4_readFactor 35 = .ok (.aload_n 0, 1) := by decide +kernel
theorem dX4_readFactor_36 : decode cX4_readFactor 36 = .ok (.getfield 14, 3) := by decide +kernel
theorem dX4_readFactor_39 : decode cX4_readFactor 39 = .ok (.ldc 132, 2) := by decide +kernel
theorem dX4_readFactor_41 : decode cX4_readFactor 41 = .ok (.invokevirtual 58, 3) := by decide +kernel
theorem dX4_readFactor_44 : decode cX4_readFactor 44 = .ok (.ifCond .eq 33, 3) := by decide +kernel
theorem dX4_readFactor_47 : decode cX4_readFactor 47 = .ok (.aload_n 2, 1) := by decide +kernel
theorem dX4_readFactor_48 : decode cX4_readFactor 48 = .ok (.aload_n 0, 1) := by decide +kernel
theorem dX4_readFactor_49 : decode cX4_readFactor 49 = .ok (.getfield 14, 3) := by decide +kernel
theorem dX4_readFactor_52 : decode cX4_readFactor 52 = .ok (.ldc 130, 2) := by decide +kernel
theorem dX4_readFactor_54 : decode cX4_readFactor 54 = .ok (.invokevirtual 58, 3) := by decide +kernel
theorem dX4_readFactor_57 : decode cX4_readFactor 57 = .ok (.ifCond .eq 7, 3) := by decide +kernel
theorem dX4_readFactor_60 : decode cX4_readFactor 60 = .ok (.iconst 4, 1) := by decide +kernel
theorem dX4_readFactor_61 : decode cX4_readFactor 61 = .ok (.goto 4, 3) := by decide +kernel
theorem dX4_readFactor_64 : decode cX4_readFactor 64 = .ok (.iconst 1, 1) := by decide +kernel
theorem dX4_readFactor_65 : decode cX4_readFactor 65 = .ok (.invokevirtual 134, 3) := by decide +kernel
theorem dX4_readFactor_68 : decode cX4_readFactor 68 = .ok (.aload_n 0, 1) := by decide +kernel
theorem dX4_readFactor_69 : decode cX4_readFactor 69 = .ok (.getfield 14, 3) := by decide +kernel
theorem dX4_readFactor_72 : decode cX4_readFactor 72 = .ok (.invokevirtual 66, 3) := by decide +kernel
theorem dX4_readFactor_75 : decode cX4_readFactor 75 = .ok (.iconst 1, 1) := by decide +kernel
theorem dX4_readFactor_76 : decode cX4_readFactor 76 = .ok (.ireturn, 1) := by decide +kernel
theorem dX4_readFactor_77 : decode cX4_readFactor 77 = .ok (.aload_n 0, 1) := by decide +kernel
theorem dX4_readFactor_78 : decode cX4_readFactor 78 = .ok (.getfield 14, 3) := by decide +kernel
theorem dX4_readFactor_81 : decode cX4_readFactor 81 = .ok (.ldc 137, 2) := by decide +kernel
theorem dX4_readFactor_83 : decode cX4_readFactor 83 = .ok (.invokevirtual 58, 3) := by decide +kernel
theorem dX4_readFactor_86 : decode cX4_readFactor 86 = .ok (.ifCond .ne 15, 3) := by decide +kernel
theorem dX4_readFactor_89 : decode cX4_readFactor 89 = .ok (.aload_n 0, 1) := by decide +kernel
theorem dX4_readFactor_90 : decode cX4_readFactor 90 = .ok (.getfield 14, 3) := by decide +kernel
theorem dX4_readFactor_93 : decode cX4_readFactor 93 = .ok (.ldc 139, 2) := by decide +kernel
theorem dX4_readFactor_95 : decode cX4_readFactor 95 = .ok (.invokevirtual 58, 3) := by decide +kernel
theorem dX4_readFactor_98 : decode cX4_readFactor 98 = .ok (.ifCond .eq 71, 3) := by decide +kernel
theorem dX4_readFactor_101 : decode cX4_readFactor 101 = .ok (.aload_n 0, 1) := by decide +kernel
theorem dX4_readFactor_102 : decode cX4_readFactor 102 = .ok (.getfield 14, 3) := by decide +kernel
theorem dX4_readFactor_105 : decode cX4_readFactor 105 = .ok (.ldc 137, 2) := by decide +kernel
theorem dX4_readFactor_107 : decode cX4_readFactor 107 = .ok (.invokevirtual 58, 3) := by decide +kernel
theorem dX4_readFactor_110 : decode cX4_readFactor 110 = .ok (.ifCond .eq 7, 3) := by decide +kernel
theorem dX4_readFactor_113 : decode cX4_readFactor 113 = .ok (.iconst 0, 1) := by decide +kernel
theorem dX4_readFactor_114 : decode cX4_readFactor 114 = .ok (.goto 4, 3) := by decide +kernel
theorem dX4_readFactor_117 : decode cX4_readFactor 117 = .ok (.iconst 1, 1) := by decide +kernel
theorem dX4_readFactor_118 : decode cX4_readFactor 118 = .ok (.istore_n 3, 1) := by decide +kernel
theorem dX4_readFactor_119 : decode cX4_readFactor 119 = .ok (.aload_n 0, 1) := by decide +kernel
theorem dX4_readFactor_120 : decode cX4_readFactor 120 = .ok (.getfield 14, 3) := by decide +kernel
theorem dX4_readFactor_123 : decode cX4_readFactor 123 = .ok (.invokevirtual 66, 3) := by decide +kernel
theorem dX4_readFactor_126 : decode cX4_readFactor 126 = .ok (.aload_n 0, 1) := by decide +kernel
theorem dX4_readFactor_127 : decode cX4_readFactor 127 = .ok (.iload_n 1, 1) := by decide +kernel
theorem dX4_readFactor_128 : decode cX4_readFactor 128 = .ok (.invokevirtual 141, 3) := by decide +kernel
theorem dX4_readFactor_131 : decode cX4_readFactor 131 = .ok (.ifCond .ne 5, 3) := by decide +kernel
theorem dX4_readFactor_134 : decode cX4_readFactor 134 = .ok (.iconst 0, 1) := by decide +kernel
theorem dX4_readFactor_135 : decode cX4_readFactor 135 = .ok (.ireturn, 1) := by decide +kernel
theorem dX4_readFactor_136 : decode cX4_readFactor 136 = .ok (.aload_n 0, 1) := by decide +kernel
theorem dX4_readFactor_137 : decode cX4_readFactor 137 = .ok (.getfield 28, 3) := by decide +kernel
theorem dX4_readFactor_140 : decode cX4_readFactor 140 = .ok (.aload_n 2, 1) := by decide +kernel
theorem dX4_readFactor_141 : decode cX4_readFactor 141 = .ok (.aload_n 0, 1) := by decide +kernel
theorem dX4_readFactor_142 : decode cX4_readFactor 142 = .ok (.getfield 44, 3) := by decide +kernel
theorem dX4_readFactor_145 : decode cX4_readFactor 145 = .ok (.iload_n 1, 1) := by decide +kernel
theorem dX4_readFactor_146 : decode cX4_readFactor 146 = .ok (.aaload, 1) := by decide +kernel
theorem dX4_readFactor_147 : decode cX4_readFactor 147 = .ok (.iload_n 3, 1) := by decide +kernel
theorem dX4_readFactor_148 : decode cX4_readFactor 148 = .ok (.invokevirtual 144, 3) := by decide +kernel
theorem dX4_readFactor_151 : decode cX4_readFactor 151 = .ok (.ifCond .ne 12, 3) := by decide +kernel
theorem dX4_readFactor_154 : decode cX4_readFactor 154 = .ok (.aload_n 0, 1) := by decide +kernel
theorem dX4_readFactor_155 : decode cX4_readFactor 155 = .ok (.bipush (-5), 2) := by decide +kernel
theorem dX4_readFactor_157 : decode cX4_readFactor 157 = .ok (.invokevirtual 62, 3) := by decide +kernel
theorem dX4_readFactor_160 : decode cX4_readFactor 160 = .ok (.ifCond .eq 7, 3) := by decide +kernel
theorem dX4_readFactor_163 : decode cX4_readFactor 163 = .ok (.iconst 1, 1) := by decide +kernel
theorem dX4_readFactor_164 : decode cX4_readFactor 164 = .ok (.goto 4, 3) := by decide +kernel
theorem dX4_readFactor_167 : decode cX4_readFactor 167 = .ok (.iconst 0, 1) := by decide +kernel
theorem dX4_readFactor_168 : decode cX4_readFactor 168 = .ok (.ireturn, 1) := by decide +kernel
theorem dX4_readFactor_169 : decode cX4_readFactor 169 = .ok (.aload_n 0, 1) := by decide +kernel
theorem dX4_readFactor_170 : decode cX4_readFactor 170 = .ok (.getfield 14, 3) := by decide +kernel
theorem dX4_readFactor_173 : decode cX4_readFactor 173 = .ok (.getfield 72, 3) := by decide +kernel
theorem dX4_readFactor_176 : decode cX4_readFactor 176 = .ok (.bipush 40, 2) := by decide +kernel
theorem dX4_readFactor_178 : decode cX4_readFactor 178 = .ok (.if_icmp .ne 21, 3) := by decide +kernel
theorem dX4_readFactor_181 : decode cX4_readFactor 181 = .ok (.aload_n 0, 1) := by decide +kernel
theorem dX4_readFactor_182 : decode cX4_readFactor 182 = .ok (.iload_n 1, 1) := by decide +kernel
theorem dX4_readFactor_183 : decode cX4_readFactor 183 = .ok (.invokevirtual 141, 3) := by decide +kernel
theorem dX4_readFactor_186 : decode cX4_readFactor 186 = .ok (.istore_n 3, 1) := by decide +kernel
theorem dX4_readFactor_187 : decode cX4_readFactor 187 = .ok (.aload_n 2, 1) := by decide +kernel
theorem dX4_readFactor_188 : decode cX4_readFactor 188 = .ok (.aload_n 0, 1) := by decide +kernel
theorem dX4_readFactor_189 : decode cX4_readFactor 189 = .ok (.getfield 44, 3) := by decide +kernel
theorem dX4_readFactor_192 : decode cX4_readFactor 192 = .ok (.iload_n 1, 1) := by decide +kernel
theorem dX4_readFactor_193 : decode cX4_readFactor 193 = .ok (.aaload, 1) := by decide +kernel
theorem dX4_readFactor_194 : decode cX4_readFactor 194 = .ok (.invokevirtual 113, 3) := by decide +kernel
theorem dX4_readFactor_197 : decode cX4_readFactor 197 = .ok (.iload_n 3, 1) := by decide +kernel
theorem dX4_readFactor_198 : decode cX4_readFactor 198 = .ok (.ireturn, 1) := by decide +kernel
theorem dX4_readFactor_199 : decode cX4_readFactor 199 = .ok (.aload_n 0, 1) := by decide +kernel
theorem dX4_readFactor_200 : decode cX4_readFactor 200 = .ok (.getfield 14, 3) := by decide +kernel
theorem dX4_readFactor_203 : decode cX4_readFactor 203 = .ok (.invokevirtual 75, 3) := by decide +kernel
theorem dX4_readFactor_206 : decode cX4_readFactor 206 = .ok (.istore_n 3, 1) := by decide +kernel
theorem dX4_readFactor_207 : decode cX4_readFactor 207 = .ok (.iload_n 3, 1) := by decide +kernel
theorem dX4_readFactor_208 : decode cX4_readFactor 208 = .ok (.ifCond .ge 9, 3) := by decide +kernel
theorem dX4_readFactor_211 : decode cX4_readFactor 211 = .ok (.aload_n 0, 1) := by decide +kernel
theorem dX4_readFactor_212 : decode cX4_readFactor 212 = .ok (.aload_n 2, 1) := by decide +kernel
theorem dX4_readFactor_213 : decode cX4_readFactor 213 = .ok (.invokevirtual 148, 3) := by decide +kernel
theorem dX4_readFactor_216 : decode cX4_readFactor 216 = .ok (.ireturn, 1) := by decide +kernel
theorem dX4_readFactor_217 : decode cX4_readFactor 217 = .ok (.aload_n 0, 1) := by decide +kernel
theorem dX4_readFactor_218 : decode cX4_readFactor 218 = .ok (.getfield 21, 3) := by decide +kernel
theorem dX4_readFactor_221 : decode cX4_readFactor 221 = .ok (.iload_n 3, 1) := by decide +kernel
theorem dX4_readFactor_222 : decode cX4_readFactor 222 = .ok (.invokevirtual 152, 3) := by decide +kernel
theorem dX4_readFactor_225 : decode cX4_readFactor 225 = .ok (.ifCond .ne 10, 3) := by decide +kernel
theorem dX4_readFactor_228 : decode cX4_readFactor 228 = .ok (.aload_n 0, 1) := by decide +kernel
theorem dX4_readFactor_229 : decode cX4_readFactor 229 = .ok (.bipush (-4), 2) := by decide +kernel
theorem dX4_readFactor_231 : decode cX4_readFactor 231 = .ok (.invokevirtual 62, 3) := by decide +kernel
theorem dX4_readFactor_234 : decode cX4_readFactor 234 = .ok (.ireturn, 1) := by decide +kernel
theorem dX4_readFactor_235 : decode cX4_readFactor 235 = .ok (.aload_n 0, 1) := by decide +kernel
theorem dX4_readFactor_236 : decode cX4_readFactor 236 = .ok (.getfield 14, 3) := by decide +kernel
theorem dX4_readFactor_239 : decode cX4_readFactor 239 = .ok (.invokevirtual 66, 3) := by decide +kernel
theorem dX4_readFactor_242 : decode cX4_readFactor 242 = .ok (.aload_n 2, 1) := by decide +kernel
theorem dX4_readFactor_243 : decode cX4_readFactor 243 = .ok (.aload_n 0, 1) := by decide +kernel
theorem dX4_readFactor_244 : decode cX4_readFactor 244 = .ok (.getfield 21, 3) := by decide +kernel
theorem dX4_readFactor_247 : decode cX4_readFactor 247 = .ok (.getfield 155, 3) := by decide +kernel
theorem dX4_readFactor_250 : decode cX4_readFactor 250 = .ok (.iload_n 3, 1) := by decide +kernel
theorem dX4_readFactor_251 : decode cX4_readFactor 251 = .ok (.aaload, 1) := by decide +kernel
theorem dX4_readFactor_252 : decode cX4_readFactor 252 = .ok (.invokevirtual 113, 3) := by decide +kernel
theorem dX4_readFactor_255 : decode cX4_readFactor 255 = .ok (.aload_n 0, 1) := by decide +kernel
theorem dX4_readFactor_256 : decode cX4_readFactor 256 = .ok (.getfield 14, 3) := by decide +kernel
theorem dX4_readFactor_259 : decode cX4_readFactor 259 = .ok (.getfield 72, 3) := by decide +kernel
theorem dX4_readFactor_262 : decode cX4_readFactor 262 = .ok (.bipush 91, 2) := by decide +kernel
theorem dX4_readFactor_264 : decode cX4_readFactor 264 = .ok (.if_icmp .eq 5, 3) := by decide +kernel
theorem dX4_readFactor_267 : decode cX4_readFactor 267 = .ok (.iconst 1, 1) := by decide +kernel
theorem dX4_readFactor_268 : decode cX4_readFactor 268 = .ok (.ireturn, 1) := by decide +kernel
theorem dX4_readFactor_269 : decode cX4_readFactor 269 = .ok (.aload_n 0, 1) := by decide +kernel
theorem dX4_readFactor_270 : decode cX4_readFactor 270 = .ok (.iload_n 1, 1) := by decide +kernel
theorem dX4_readFactor_271 : decode cX4_readFactor 271 = .ok (.invokevirtual 158, 3) := by decide +kernel
theorem dX4_readFactor_274 : decode cX4_readFactor 274 = .ok (.ifCond .eq 42, 3) := by decide +kernel
theorem dX4_readFactor_277 : decode cX4_readFactor 277 = .ok (.aload_n 0, 1) := by decide +kernel
theorem dX4_readFactor_278 : decode cX4_readFactor 278 = .ok (.getfield 28, 3) := by decide +kernel
theorem dX4_readFactor_281 : decode cX4_readFactor 281 = .ok (.aload_n 2, 1) := by decide +kernel
theorem dX4_readFactor_282 : decode cX4_readFactor 282 = .ok (.aload_n 2, 1) := by decide +kernel
theorem dX4_readFactor_283 : decode cX4_readFactor 283 = .ok (.aload_n 0, 1) := by decide +kernel
theorem dX4_readFactor_284 : decode cX4_readFactor 284 = .ok (.getfield 44, 3) := by decide +kernel
theorem dX4_readFactor_287 : decode cX4_readFactor 287 = .ok (.iload_n 1, 1) := by decide +kernel
theorem dX4_readFactor_288 : decode cX4_readFactor 288 = .ok (.aaload, 1) := by decide +kernel
theorem dX4_readFactor_289 : decode cX4_readFactor 289 = .ok (.aload_n 0, 1) := by decide +kernel
theorem dX4_readFactor_290 : decode cX4_readFactor 290 = .ok (.getfield 34, 3) := by decide +kernel
theorem dX4_readFactor_293 : decode cX4_readFactor 293 = .ok (.iload_n 1, 1) := by decide +kernel
theorem dX4_readFactor_294 : decode cX4_readFactor 294 = .ok (.iconst 1, 1) := by decide +kernel
theorem dX4_readFactor_295 : decode cX4_readFactor 295 = .ok (.iadd, 1) := by decide +kernel
theorem dX4_readFactor_296 : decode cX4_readFactor 296 = .ok (.aaload, 1) := by decide +kernel
theorem dX4_readFactor_297 : decode cX4_readFactor 297 = .ok (.invokevirtual 161, 3) := by decide +kernel
theorem dX4_readFactor_300 : decode cX4_readFactor 300 = .ok (.ifCond .ne 12, 3) := by decide +kernel
theorem dX4_readFactor_303 : decode cX4_readFactor 303 = .ok (.aload_n 0, 1) := by decide +kernel
theorem dX4_readFactor_304 : decode cX4_readFactor 304 = .ok (.bipush (-5), 2) := by decide +kernel
theorem dX4_readFactor_306 : decode cX4_readFactor 306 = .ok (.invokevirtual 62, 3) := by decide +kernel
theorem dX4_readFactor_309 : decode cX4_readFactor 309 = .ok (.ifCond .eq 7, 3) := by decide +kernel
theorem dX4_readFactor_312 : decode cX4_readFactor 312 = .ok (.iconst 1, 1) := by decide +kernel
theorem dX4_readFactor_313 : decode cX4_readFactor 313 = .ok (.goto 4, 3) := by decide +kernel
theorem dX4_readFactor_316 : decode cX4_readFactor 316 = .ok (.iconst 0, 1) := by decide +kernel
theorem dX4_readFactor_317 : decode cX4_readFactor 317 = .ok (.ireturn, 1) := by decide +kernel
theorem dX4_readConstant_0 : decode cX4_readConstant 0 = .ok (.aload_n 0, 1) := by decide +kernel
theorem dX4_readConstant_1 : decode cX4_readConstant 1 = .ok (.invokevirtual 93, 3) := by decide +kernel
theorem dX4_readConstant_4 : decode cX4_readConstant 4 = .ok (.ifCond .ne 5, 3) := by decide +kernel
theorem dX4_readConstant_7 : decode cX4_readConstant 7 = .ok (.iconst 0, 1) := by decide +kernel
theorem dX4_readConstant_8 : decode cX4_readConstant 8 = .ok (.ireturn, 1) := by decide +kernel
theorem dX4_readConstant_9 : decode cX4_readConstant 9 = .ok (.aload_n 1, 1) := by decide +kernel
theorem dX4_readConstant_10 : decode cX4_readConstant 10 = .ok (.aload_n 0, 1) := by decide +kernel
theorem dX4_readConstant_11 : decode cX4_readConstant 11 = .ok (.getfield 14, 3) := by decide +kernel
theorem dX4_readConstant_14 : decode cX4_readConstant 14 = .ok (.invokevirtual 96, 3) := by decide +kernel
theorem dX4_readConstant_17 : decode cX4_readConstant 17 = .ok (.i2l, 1) := by decide +kernel
theorem dX4_readConstant_18 : decode cX4_readConstant 18 = .ok (.invokevirtual 165, 3) := by decide +kernel
theorem dX4_readConstant_21 : decode cX4_readConstant 21 = .ok (.aload_n 0, 1) := by decide +kernel
theorem dX4_readConstant_22 : decode cX4_readConstant 22 = .ok (.getfield 14, 3) := by decide +kernel
theorem dX4_readConstant_25 : decode cX4_readConstant 25 = .ok (.invokevirtual 66, 3) := by decide +kernel
theorem dX4_readConstant_28 : decode cX4_readConstant 28 = .ok (.iconst 1, 1) := by decide +kernel
theorem dX4_readConstant_29 : decode cX4_readConstant 29 = .ok (.ireturn, 1) := by decide +kernel
theorem dX4_readParenthesis_0 : decode cX4_readParenthesis 0 = .ok (.aload_n 0, 1) := by decide +kernel
theorem dX4_readParenthesis_1 : decode cX4_readParenthesis 1 = .ok (.bipush 40, 2) := by decide +kernel
theorem dX4_readParenthesis_3 : decode cX4_readParenthesis 3 = .ok (.iload_n 1, 1) := by decide +kernel
theorem dX4_readParenthesis_4 : decode cX4_readParenthesis 4 = .ok (.invokevirtual 168, 3) := by decide +kernel
theorem dX4_readParenthesis_7 : decode cX4_readParenthesis 7 = .ok (.ifCond .eq 22, 3) := by decide +kernel
theorem dX4_readParenthesis_10 : decode cX4_readParenthesis 10 = .ok (.aload_n 0, 1) := by decide +kernel
theorem dX4_readParenthesis_11 : decode cX4_readParenthesis 11 = .ok (.iload_n 1, 1) := by decide +kernel
theorem dX4_readParenthesis_12 : decode cX4_readParenthesis 12 = .ok (.iconst 1, 1) := by decide +kernel
theorem dX4_readParenthesis_13 : decode cX4_readParenthesis 13 = .ok (.iadd, 1) := by decide +kernel
theorem dX4_readParenthesis_14 : decode cX4_readParenthesis 14 = .ok (.invokevirtual 79, 3) := by decide +kernel
theorem dX4_readParenthesis_17 : decode cX4_readParenthesis 17 = .ok (.ifCond .eq 12, 3) := by decide +kernel
theorem dX4_readParenthesis_20 : decode cX4_readParenthesis 20 = .ok (.aload_n 0, 1) := by decide +kernel
theorem dX4_readParenthesis_21 : decode cX4_readParenthesis 21 = .ok (.bipush 41, 2) := by decide +kernel
theorem dX4_readParenthesis_23 : decode cX4_readParenthesis 23 = .ok (.invokevirtual 69, 3) := by decide +kernel
theorem dX4_readParenthesis_26 : decode cX4_readParenthesis 26 = .ok (.ifCond .ne 5, 3) := by decide +kernel
theorem dX4_readParenthesis_29 : decode cX4_readParenthesis 29 = .ok (.iconst 0, 1) := by decide +kernel
theorem dX4_readParenthesis_30 : decode cX4_readParenthesis 30 = .ok (.ireturn, 1) := by decide +kernel
theorem dX4_readParenthesis_31 : decode cX4_readParenthesis 31 = .ok (.aload_n 0, 1) := by decide +kernel
theorem dX4_readParenthesis_32 : decode cX4_readParenthesis 32 = .ok (.getfield 44, 3) := by decide +kernel
theorem dX4_readParenthesis_35 : decode cX4_readParenthesis 35 = .ok (.iload_n 1, 1) := by decide +kernel
theorem dX4_readParenthesis_36 : decode cX4_readParenthesis 36 = .ok (.aaload, 1) := by decide +kernel
theorem dX4_readParenthesis_37 : decode cX4_readParenthesis 37 = .ok (.aload_n 0, 1) := by decide +kernel
theorem dX4_readParenthesis_38 : decode cX4_readParenthesis 38 = .ok (.getfield 34, 3) := by decide +kernel
theorem dX4_readParenthesis_41 : decode cX4_readParenthesis 41 = .ok (.iload_n 1, 1) := by decide +kernel
theorem dX4_readParenthesis_42 : decode cX4_readParenthesis 42 = .ok (.iconst 1, 1) := by decide +kernel
theorem dX4_readParenthesis_43 : decode cX4_readParenthesis 43 = .ok (.iadd, 1) := by decide +kernel
theorem dX4_readParenthesis_44 : decode cX4_readParenthesis 44 = .ok (.aaload, 1) := by decide +kernel
theorem dX4_readParenthesis_45 : decode cX4_readParenthesis 45 = .ok (.invokevirtual 113, 3) := by decide +kernel
theorem dX4_readParenthesis_48 : decode cX4_readParenthesis 48 = .ok (.iconst 1, 1) := by decide +kernel
theorem dX4_readParenthesis_49 : decode cX4_readParenthesis 49 = .ok (.ireturn, 1) := by decide +kernel
theorem dX4_readBrackets_0 : decode cX4_readBrackets 0 = .ok (.aload_n 0, 1) := by decide +kernel
theorem dX4_readBrackets_1 : decode cX4_readBrackets 1 = .ok (.bipush 91, 2) := by decide +kernel
theorem dX4_readBrackets_3 : decode cX4_readBrackets 3 = .ok (.iload_n 1, 1) := by decide +kernel
theorem dX4_readBrackets_4 : decode cX4_readBrackets 4 = .ok (.invokevirtual 168, 3) := by decide +kernel
theorem dX4_readBrackets_7 : decode cX4_readBrackets 7 = .ok (.ifCond .eq 22, 3) := by decide +kernel
theorem dX4_readBrackets_10 : decode cX4_readBrackets 10 = .ok (.aload_n 0, 1) := by decide +kernel
theorem dX4_readBrackets_11 : decode cX4_readBrackets 11 = .ok (.iload_n 1, 1) := by decide +kernel
theorem dX4_readBrackets_12 : decode cX4_readBrackets 12 = .ok (.iconst 1, 1) := by decide +kernel
theorem dX4_readBrackets_13 : decode cX4_readBrackets 13 = .ok (.iadd, 1) := by decide +kernel
theorem dX4_readBrackets_14 : decode cX4_readBrackets 14 = .ok (.invokevirtual 79, 3) := by decide +kernel
theorem dX4_readBrackets_17 : decode cX4_readBrackets 17 = .ok (.ifCond .eq 12, 3) := by decide +kernel
theorem dX4_readBrackets_20 : decode cX4_readBrackets 20 = .ok (.aload_n 0, 1) := by decide +kernel
theorem dX4_readBrackets_21 : decode cX4_readBrackets 21 = .ok (.bipush 44, 2) := by decide +kernel
theorem dX4_readBrackets_23 : decode cX4_readBrackets 23 = .ok (.invokevirtual 69, 3) := by decide +kernel
theorem dX4_readBrackets_26 : decode cX4_readBrackets 26 = .ok (.ifCond .ne 5, 3) := by decide +kernel
theorem dX4_readBrackets_29 : decode cX4_readBrackets 29 = .ok (.iconst 0, 1) := by decide +kernel
theorem dX4_readBrackets_30 : decode cX4_readBrackets 30 = .ok (.ireturn, 1) := by decide +kernel
theorem dX4_readBrackets_31 : decode cX4_readBrackets 31 = .ok (.aload_n 0, 1) := by decide +kernel
theorem dX4_readBrackets_32 : decode cX4_readBrackets 32 = .ok (.getfield 44, 3) := by decide +kernel
theorem dX4_readBrackets_35 : decode cX4_readBrackets 35 = .ok (.iload_n 1, 1) := by decide +kernel
theorem dX4_readBrackets_36 : decode cX4_readBrackets 36 = .ok (.aaload, 1) := by decide +kernel
theorem dX4_readBrackets_37 : decode cX4_readBrackets 37 = .ok (.aload_n 0, 1) := by decide +kernel
theorem dX4_readBrackets_38 : decode cX4_readBrackets 38 = .ok (.getfield 34, 3) := by decide +kernel
theorem dX4_readBrackets_41 : decode cX4_readBrackets 41 = .ok (.iload_n 1, 1) := by decide +kernel
theorem dX4_readBrackets_42 : decode cX4_readBrackets 42 = .ok (.iconst 1, 1) := by decide +kernel
theorem dX4_readBrackets_43 : decode cX4_readBrackets 43 = .ok (.iadd, 1) := by decide +kernel
theorem dX4_readBrackets_44 : decode cX4_readBrackets 44 = .ok (.aaload, 1) := by decide +kernel
theorem dX4_readBrackets_45 : decode cX4_readBrackets 45 = .ok (.invokevirtual 113, 3) := by decide +kernel
theorem dX4_readBrackets_48 : decode cX4_readBrackets 48 = .ok (.aload_n 0, 1) := by decide +kernel
theorem dX4_readBrackets_49 : decode cX4_readBrackets 49 = .ok (.iload_n 1, 1) := by decide +kernel
theorem dX4_readBrackets_50 : decode cX4_readBrackets 50 = .ok (.iconst 1, 1) := by decide +kernel
theorem dX4_readBrackets_51 : decode cX4_readBrackets 51 = .ok (.iadd, 1) := by decide +kernel
theorem dX4_readBrackets_52 : decode cX4_readBrackets 52 = .ok (.invokevirtual 79, 3) := by decide +kernel
theorem dX4_readBrackets_55 : decode cX4_readBrackets 55 = .ok (.ifCond .eq 16, 3) := by decide +kernel
theorem dX4_readBrackets_58 : decode cX4_readBrackets 58 = .ok (.aload_n 0, 1) := by decide +kernel
theorem dX4_readBrackets_59 : decode cX4_readBrackets 59 = .ok (.bipush 93, 2) := by decide +kernel
theorem dX4_readBrackets_61 : decode cX4_readBrackets 61 = .ok (.invokevirtual 69, 3) := by decide +kernel
theorem dX4_readBrackets_64 : decode cX4_readBrackets 64 = .ok (.ifCond .eq 7, 3) := by decide +kernel
theorem dX4_readBrackets_67 : decode cX4_readBrackets 67 = .ok (.iconst 1, 1) := by decide +kernel
theorem dX4_readBrackets_68 : decode cX4_readBrackets 68 = .ok (.goto 4, 3) := by decide +kernel
theorem dX4_readBrackets_71 : decode cX4_readBrackets 71 = .ok (.iconst 0, 1) := by decide +kernel
theorem dX4_readBrackets_72 : decode cX4_readBrackets 72 = .ok (.ireturn, 1) := by decide +kernel
theorem dX5_init_0 : decode cX5_init 0 = .ok (.aload_n 0, 1) := by decide +kernel
theorem dX5_init_1 : decode cX5_init 1 = .ok (.invokespecial 3, 3) := by decide +kernel
theorem dX5_init_4 : decode cX5_init 4 = .ok (.aload_n 0, 1) := by decide +kernel
theorem dX5_init_5 : decode cX5_init 5 = .ok (.sipush 700, 3) := by decide +kernel
theorem dX5_init_8 : decode cX5_init 8 = .ok (.newarray .int, 2) := by decide +kernel
theorem dX5_init_10 : decode cX5_init 10 = .ok (.putfield 9, 3) := by decide +kernel
theorem dX5_init_13 : decode cX5_init 13 = .ok (.aload_n 0, 1) := by decide +kernel
theorem dX5_init_14 : decode cX5_init 14 = .ok (.sipush 701, 3) := by decide +kernel
theorem dX5_init_17 : decode cX5_init 17 = .ok (.newarray .int, 2) := by decide +kernel
theorem dX5_init_19 : decode cX5_init 19 = .ok (.putfield 15, 3) := by decide +kernel
theorem dX5_init_22 : decode cX5_init 22 = .ok (.aload_n 0, 1) := by decide +kernel
theorem dX5_init_23 : decode cX5_init 23 = .ok (.sipush 701, 3) := by decide +kernel
theorem dX5_init_26 : decode cX5_init 26 = .ok (.newarray .int, 2) := by decide +kernel
theorem dX5_init_28 : decode cX5_init 28 = .ok (.putfield 18, 3) := by decide +kernel
theorem dX5_init_31 : decode cX5_init 31 = .ok (.return_, 1) := by decide +kernel
theorem dX5_putWord_0 : decode cX5_putWord 0 = .ok (.bipush 24, 2) := by decide +kernel
theorem dX5_putWord_2 : decode cX5_putWord 2 = .ok (.istore_n 2, 1) := by decide +kernel
theorem dX5_putWord_3 : decode cX5_putWord 3 = .ok (.iload_n 2, 1) := by decide +kernel
theorem dX5_putWord_4 : decode cX5_putWord 4 = .ok (.ifCond .lt 52, 3) := by decide +kernel
theorem dX5_putWord_7 : decode cX5_putWord 7 = .ok (.aload_n 0, 1) := by decide +kernel
theorem dX5_putWord_8 : decode cX5_putWord 8 = .ok (.getfield 21, 3) := by decide +kernel
theorem dX5_putWord_11 : decode cX5_putWord 11 = .ok (.ifCond .lt 39, 3) := by decide +kernel
theorem dX5_putWord_14 : decode cX5_putWord 14 = .ok (.aload_n 0, 1) := by decide +kernel
theorem dX5_putWord_15 : decode cX5_putWord 15 = .ok (.getfield 21, 3) := by decide +kernel
theorem dX5_putWord_18 : decode cX5_putWord 18 = .ok (.sipush 700, 3) := by decide +kernel
theorem dX5_putWord_21 : decode cX5_putWord 21 = .ok (.if_icmp .ge 29, 3) := by decide +kernel
theorem dX5_putWord_24 : decode cX5_putWord 24 = .ok (.aload_n 0, 1) := by decide +kernel
theorem dX5_putWord_25 : decode cX5_putWord 25 = .ok (.getfield 9, 3) := by decide +kernel
theorem dX5_putWord_28 : decode cX5_putWord 28 = .ok (.aload_n 0, 1) := by decide +kernel
theorem dX5_putWord_29 : decode cX5_putWord 29 = .ok (.getfield 21, 3) := by decide +kernel
theorem dX5_putWord_32 : decode cX5_putWord 32 = .ok (.iload_n 1, 1) := by decide +kernel
theorem dX5_putWord_33 : decode cX5_putWord 33 = .ok (.iload_n 2, 1) := by decide +kernel
theorem dX5_putWord_34 : decode cX5_putWord 34 = .ok (.iushr, 1) := by decide +kernel
theorem dX5_putWord_35 : decode cX5_putWord 35 = .ok (.sipush 255, 3) := by decide +kernel
theorem dX5_putWord_38 : decode cX5_putWord 38 = .ok (.iand, 1) := by decide +kernel
theorem dX5_putWord_39 : decode cX5_putWord 39 = .ok (.iastore, 1) := by decide +kernel
theorem dX5_putWord_40 : decode cX5_putWord 40 = .ok (.aload_n 0, 1) := by decide +kernel
theorem dX5_putWord_41 : decode cX5_putWord 41 = .ok (.dup, 1) := by decide +kernel
theorem dX5_putWord_42 : decode cX5_putWord 42 = .ok (.getfield 21, 3) := by decide +kernel
theorem dX5_putWord_45 : decode cX5_putWord 45 = .ok (.iconst 1, 1) := by decide +kernel
theorem dX5_putWord_46 : decode cX5_putWord 46 = .ok (.iadd, 1) := by decide +kernel
theorem dX5_putWord_47 : decode cX5_putWord 47 = .ok (.putfield 21, 3) := by decide +kernel
theorem dX5_putWord_50 : decode cX5_putWord 50 = .ok (.iinc 2 (-8), 3) := by decide +kernel
theorem dX5_putWord_53 : decode cX5_putWord 53 = .ok (.goto (-50), 3) := by decide +kernel
theorem dX5_putWord_56 : decode cX5_putWord 56 = .ok (.return_, 1) := by decide +kernel
theorem dX5_split_0 : decode cX5_split 0 = .ok (.iconst 0, 1) := by decide +kernel
theorem dX5_split_1 : decode cX5_split 1 = .ok (.istore_n 2, 1) := by decide +kernel
theorem dX5_split_2 : decode cX5_split 2 = .ok (.iconst 0, 1) := by decide +kernel
theorem dX5_split_3 : decode cX5_split 3 = .ok (.istore_n 3, 1) := by decide +kernel
theorem dX5_split_4 : decode cX5_split 4 = .ok (.iconst 0, 1) := by decide +kernel
theorem dX5_split_5 : decode cX5_split 5 = .ok (.istore 4, 2) := by decide +kernel
theorem dX5_split_7 : decode cX5_split 7 = .ok (.iload 4, 2) := by decide +kernel
theorem dX5_split_9 : decode cX5_split 9 = .ok (.iload_n 1, 1) := by decide +kernel
theorem dX5_split_10 : decode cX5_split 10 = .ok (.if_icmp .ge 102, 3) := by decide +kernel
theorem dX5_split_13 : decode cX5_split 13 = .ok (.iload 4, 2) := by decide +kernel
theorem dX5_split_15 : decode cX5_split 15 = .ok (.sipush 700, 3) := by decide +kernel
theorem dX5_split_18 : decode cX5_split 18 = .ok (.if_icmp .ge 94, 3) := by decide +kernel
theorem dX5_split_21 : decode cX5_split 21 = .ok (.aload_n 0, 1) := by decide +kernel
theorem dX5_split_22 : decode cX5_split 22 = .ok (.getfield 9, 3) := by decide +kernel
theorem dX5_split_25 : decode cX5_split 25 = .ok (.iload 4, 2) := by decide +kernel
theorem dX5_split_27 : decode cX5_split 27 = .ok (.iaload, 1) := by decide +kernel
theorem dX5_split_28 : decode cX5_split 28 = .ok (.invokestatic 25, 3) := by decide +kernel
theorem dX5_split_31 : decode cX5_split 31 = .ok (.istore 5, 2) := by decide +kernel
theorem dX5_split_33 : decode cX5_split 33 = .ok (.iload_n 2, 1) := by decide +kernel
theorem dX5_split_34 : decode cX5_split 34 = .ok (.ifCond .le 36, 3) := by decide +kernel
theorem dX5_split_37 : decode cX5_split 37 = .ok (.iload 5, 2) := by decide +kernel
theorem dX5_split_39 : decode cX5_split 39 = .ok (.iload_n 3, 1) := by decide +kernel
theorem dX5_split_40 : decode cX5_split 40 = .ok (.if_icmp .ne 30, 3) := by decide +kernel
theorem dX5_split_43 : decode cX5_split 43 = .ok (.iload 5, 2) := by decide +kernel
theorem dX5_split_45 : decode cX5_split 45 = .ok (.iconst 1, 1) := by decide +kernel
theorem dX5_split_46 : decode cX5_split 46 = .ok (.if_icmp .eq 9, 3) := by decide +kernel
theorem dX5_split_49 : decode cX5_split 49 = .ok (.iload 5, 2) := by decide +kernel
theorem dX5_split_51 : decode cX5_split 51 = .ok (.iconst 2, 1) := by decide +kernel
theorem dX5_split_52 : decode cX5_split 52 = .ok (.if_icmp .ne 18, 3) := by decide +kernel
theorem dX5_split_55 : decode cX5_split 55 = .ok (.aload_n 0, 1) := by decide +kernel
theorem dX5_split_56 : decode cX5_split 56 = .ok (.getfield 18, 3) := by decide +kernel
theorem dX5_split_59 : decode cX5_split 59 = .ok (.iload_n 2, 1) := by decide +kernel
theorem dX5_split_60 : decode cX5_split 60 = .ok (.iconst 1, 1) := by decide +kernel
theorem dX5_split_61 : decode cX5_split 61 = .ok (.isub, 1) := by decide +kernel
theorem dX5_split_62 : decode cX5_split 62 = .ok (.iload 4, 2) := by decide +kernel
theorem dX5_split_64 : decode cX5_split 64 = .ok (.iconst 1, 1) := by decide +kernel
theorem dX5_split_65 : decode cX5_split 65 = .ok (.iadd, 1) := by decide +kernel
theorem dX5_split_66 : decode cX5_split 66 = .ok (.iastore, 1) := by decide +kernel
theorem dX5_split_67 : decode cX5_split 67 = .ok (.goto 36, 3) := by decide +kernel
theorem dX5_split_70 : decode cX5_split 70 = .ok (.iload 5, 2) := by decide +kernel
theorem dX5_split_72 : decode cX5_split 72 = .ok (.ifCond .eq 31, 3) := by decide +kernel
theorem dX5_split_75 : decode cX5_split 75 = .ok (.iload_n 2, 1) := by decide +kernel
theorem dX5_split_76 : decode cX5_split 76 = .ok (.sipush 700, 3) := by decide +kernel
theorem dX5_split_79 : decode cX5_split 79 = .ok (.if_icmp .ge 24, 3) := by decide +kernel
theorem dX5_split_82 : decode cX5_split 82 = .ok (.aload_n 0, 1) := by decide +kernel
theorem dX5_split_83 : decode cX5_split 83 = .ok (.getfield 15, 3) := by decide +kernel
theorem dX5_split_86 : decode cX5_split 86 = .ok (.iload_n 2, 1) := by decide +kernel
theorem dX5_split_87 : decode cX5_split 87 = .ok (.iload 4, 2) := by decide +kernel
theorem dX5_split_89 : decode cX5_split 89 = .ok (.iastore, 1) := by decide +kernel
theorem dX5_split_90 : decode cX5_split 90 = .ok (.aload_n 0, 1) := by decide +kernel
theorem dX5_split_91 : decode cX5_split 91 = .ok (.getfield 18, 3) := by decide +kernel
theorem dX5_split_94 : decode cX5_split 94 = .ok (.iload_n 2, 1) := by decide +kernel
theorem dX5_split_95 : decode cX5_split 95 = .ok (.iload 4, 2) := by decide +kernel
theorem dX5_split_97 : decode cX5_split 97 = .ok (.iconst 1, 1) := by decide +kernel
theorem dX5_split_98 : decode cX5_split 98 = .ok (.iadd, 1) := by decide +kernel
theorem dX5_split_99 : decode cX5_split 99 = .ok (.iastore, 1) := by decide +kernel
theorem dX5_split_100 : decode cX5_split 100 = .ok (.iinc 2 1, 3) := by decide +kernel
theorem dX5_split_103 : decode cX5_split 103 = .ok (.iload 5, 2) := by decide +kernel
theorem dX5_split_105 : decode cX5_split 105 = .ok (.istore_n 3, 1) := by decide +kernel
theorem dX5_split_106 : decode cX5_split 106 = .ok (.iinc 4 1, 3) := by decide +kernel
theorem dX5_split_109 : decode cX5_split 109 = .ok (.goto (-102), 3) := by decide +kernel
theorem dX5_split_112 : decode cX5_split 112 = .ok (.aload_n 0, 1) := by decide +kernel
theorem dX5_split_113 : decode cX5_split 113 = .ok (.getfield 15, 3) := by decide +kernel
theorem dX5_split_116 : decode cX5_split 116 = .ok (.iload_n 2, 1) := by decide +kernel
theorem dX5_split_117 : decode cX5_split 117 = .ok (.iload_n 1, 1) := by decide +kernel
theorem dX5_split_118 : decode cX5_split 118 = .ok (.iastore, 1) := by decide +kernel
theorem dX5_split_119 : decode cX5_split 119 = .ok (.aload_n 0, 1) := by decide +kernel
theorem dX5_split_120 : decode cX5_split 120 = .ok (.getfield 18, 3) := by decide +kernel
theorem dX5_split_123 : decode cX5_split 123 = .ok (.iload_n 2, 1) := by decide +kernel
theorem dX5_split_124 : decode cX5_split 124 = .ok (.iload_n 1, 1) := by decide +kernel
theorem dX5_split_125 : decode cX5_split 125 = .ok (.iastore, 1) := by decide +kernel
theorem dX5_split_126 : decode cX5_split 126 = .ok (.aload_n 0, 1) := by decide +kernel
theorem dX5_split_127 : decode cX5_split 127 = .ok (.iload_n 2, 1) := by decide +kernel
theorem dX5_split_128 : decode cX5_split 128 = .ok (.putfield 29, 3) := by decide +kernel
theorem dX5_split_131 : decode cX5_split 131 = .ok (.aload_n 0, 1) := by decide +kernel
theorem dX5_split_132 : decode cX5_split 132 = .ok (.iconst (-1), 1) := by decide +kernel
theorem dX5_split_133 : decode cX5_split 133 = .ok (.putfield 32, 3) := by decide +kernel
theorem dX5_split_136 : decode cX5_split 136 = .ok (.aload_n 0, 1) := by decide +kernel
theorem dX5_split_137 : decode cX5_split 137 = .ok (.invokevirtual 35, 3) := by decide +kernel
theorem dX5_split_140 : decode cX5_split 140 = .ok (.return_, 1) := by decide +kernel
theorem dX5_kindOf_0 : decode cX5_kindOf 0 = .ok (.iload_n 0, 1) := by decide +kernel
theorem dX5_kindOf_1 : decode cX5_kindOf 1 = .ok (.bipush 32, 2) := by decide +kernel
theorem dX5_kindOf_3 : decode cX5_kindOf 3 = .ok (.if_icmp .ne 5, 3) := by decide +kernel
theorem dX5_kindOf_6 : decode cX5_kindOf 6 = .ok (.iconst 0, 1) := by decide +kernel
theorem dX5_kindOf_7 : decode cX5_kindOf 7 = .ok (.ireturn, 1) := by decide +kernel
theorem dX5_kindOf_8 : decode cX5_kindOf 8 = .ok (.iload_n 0, 1) := by decide +kernel
theorem dX5_kindOf_9 : decode cX5_kindOf 9 = .ok (.bipush 48, 2) := by decide +kernel
theorem dX5_kindOf_11 : decode cX5_kindOf 11 = .ok (.if_icmp .lt 11, 3) := by decide +kernel
theorem dX5_kindOf_14 : decode cX5_kindOf 14 = .ok (.iload_n 0, 1) := by decide +kernel
theorem dX5_kindOf_15 : decode cX5_kindOf 15 = .ok (.bipush 57, 2) := by decide +kernel
theorem dX5_kindOf_17 : decode cX5_kindOf 17 = .ok (.if_icmp .gt 5, 3) := by decide +kernel
theorem dX5_kindOf_20 : decode cX5_kindOf 20 = .ok (.iconst 1, 1) := by decide +kernel
theorem dX5_kindOf_21 : decode cX5_kindOf 21 = .ok (.ireturn, 1) := by decide +kernel
theorem dX5_kindOf_22 : decode cX5_kindOf 22 = .ok (.iload_n 0, 1) := by decide +kernel
theorem dX5_kindOf_23 : decode cX5_kindOf 23 = .ok (.bipush 97, 2) := by decide +kernel
theorem dX5_kindOf_25 : decode cX5_kindOf 25 = .ok (.if_icmp .lt 13, 3) := by decide +kernel
theorem dX5_kindOf_28 : decode cX5_kindOf 28 = .ok (.iload_n 0, 1) := by decide +kernel
theorem dX5_kindOf_29 : decode cX5_kindOf 29 = .ok (.bipush 122, 2) := by decide +kernel
theorem dX5_kindOf_31 : decode cX5_kindOf 31 = .ok (.if_icmp .gt 7, 3) := by decide +kernel
theorem dX5_kindOf_34 : decode cX5_kindOf 34 = .ok (.iconst 2, 1) := by decide +kernel
theorem dX5_kindOf_35 : decode cX5_kindOf 35 = .ok (.goto 4, 3) := by decide +kernel
theorem dX5_kindOf_38 : decode cX5_kindOf 38 = .ok (.iconst 3, 1) := by decide +kernel
theorem dX5_kindOf_39 : decode cX5_kindOf 39 = .ok (.ireturn, 1) := by decide +kernel
theorem dX5_advance_0 : decode cX5_advance 0 = .ok (.aload_n 0, 1) := by decide +kernel
theorem dX5_advance_1 : decode cX5_advance 1 = .ok (.getfield 32, 3) := by decide +kernel
theorem dX5_advance_4 : decode cX5_advance 4 = .ok (.aload_n 0, 1) := by decide +kernel
theorem dX5_advance_5 : decode cX5_advance 5 = .ok (.getfield 29, 3) := by decide +kernel
theorem dX5_advance_8 : decode cX5_advance 8 = .ok (.if_icmp .ge 13, 3) := by decide +kernel
theorem dX5_advance_11 : decode cX5_advance 11 = .ok (.aload_n 0, 1) := by decide +kernel
theorem dX5_advance_12 : decode cX5_advance 12 = .ok (.dup, 1) := by decide +kernel
theorem dX5_advance_13 : decode cX5_advance 13 = .ok (.getfield 32, 3) := by decide +kernel
theorem dX5_advance_16 : decode cX5_advance 16 = .ok (.iconst 1, 1) := by decide +kernel
theorem dX5_advance_17 : decode cX5_advance 17 = .ok (.iadd, 1) := by decide +kernel
theorem dX5_advance_18 : decode cX5_advance 18 = .ok (.putfield 32, 3) := by decide +kernel
theorem dX5_advance_21 : decode cX5_advance 21 = .ok (.aload_n 0, 1) := by decide +kernel
theorem dX5_advance_22 : decode cX5_advance 22 = .ok (.getfield 32, 3) := by decide +kernel
theorem dX5_advance_25 : decode cX5_advance 25 = .ok (.ifCond .lt 39, 3) := by decide +kernel
theorem dX5_advance_28 : decode cX5_advance 28 = .ok (.aload_n 0, 1) := by decide +kernel
theorem dX5_advance_29 : decode cX5_advance 29 = .ok (.getfield 32, 3) := by decide +kernel
theorem dX5_advance_32 : decode cX5_advance 32 = .ok (.sipush 700, 3) := by decide +kernel
theorem dX5_advance_35 : decode cX5_advance 35 = .ok (.if_icmp .gt 29, 3) := by decide +kernel
theorem dX5_advance_38 : decode cX5_advance 38 = .ok (.aload_n 0, 1) := by decide +kernel
theorem dX5_advance_39 : decode cX5_advance 39 = .ok (.aload_n 0, 1) := by decide +kernel
theorem dX5_advance_40 : decode cX5_advance 40 = .ok (.getfield 15, 3) := by decide +kernel
theorem dX5_advance_43 : decode cX5_advance 43 = .ok (.aload_n 0, 1) := by decide +kernel
theorem dX5_advance_44 : decode cX5_advance 44 = .ok (.getfield 32, 3) := by decide +kernel
theorem dX5_advance_47 : decode cX5_advance 47 = .ok (.iaload, 1) := by decide +kernel
theorem dX5_advance_48 : decode cX5_advance 48 = .ok (.putfield 38, 3) := by decide +kernel
theorem dX5_advance_51 : decode cX5_advance 51 = .ok (.aload_n 0, 1) := by decide +kernel
theorem dX5_advance_52 : decode cX5_advance 52 = .ok (.aload_n 0, 1) := by decide +kernel
theorem dX5_advance_53 : decode cX5_advance 53 = .ok (.getfield 18, 3) := by decide +kernel
theorem dX5_advance_56 : decode cX5_advance 56 = .ok (.aload_n 0, 1) := by decide +kernel
theorem dX5_advance_57 : decode cX5_advance 57 = .ok (.getfield 32, 3) := by decide +kernel
theorem dX5_advance_60 : decode cX5_advance 60 = .ok (.iaload, 1) := by decide +kernel
theorem dX5_advance_61 : decode cX5_advance 61 = .ok (.putfield 41, 3) := by decide +kernel
theorem dX5_advance_64 : decode cX5_advance 64 = .ok (.aload_n 0, 1) := by decide +kernel
theorem dX5_advance_65 : decode cX5_advance 65 = .ok (.aload_n 0, 1) := by decide +kernel
theorem dX5_advance_66 : decode cX5_advance 66 = .ok (.getfield 32, 3) := by decide +kernel
theorem dX5_advance_69 : decode cX5_advance 69 = .ok (.aload_n 0, 1) := by decide +kernel
theorem dX5_advance_70 : decode cX5_advance 70 = .ok (.getfield 29, 3) := by decide +kernel
theorem dX5_advance_73 : decode cX5_advance 73 = .ok (.if_icmp .ge 32, 3) := by decide +kernel
theorem dX5_advance_76 : decode cX5_advance 76 = .ok (.aload_n 0, 1) := by decide +kernel
theorem dX5_advance_77 : decode cX5_advance 77 = .ok (.getfield 38, 3) := by decide +kernel
theorem dX5_advance_80 : decode cX5_advance 80 = .ok (.ifCond .lt 25, 3) := by decide +kernel
theorem dX5_advance_83 : decode cX5_advance 83 = .ok (.aload_n 0, 1) := by decide +kernel
theorem dX5_advance_84 : decode cX5_advance 84 = .ok (.getfield 38, 3) := by decide +kernel
theorem dX5_advance_87 : decode cX5_advance 87 = .ok (.sipush 700, 3) := by decide +kernel
theorem dX5_advance_90 : decode cX5_advance 90 = .ok (.if_icmp .ge 15, 3) := by decide +kernel
theorem dX5_advance_93 : decode cX5_advance 93 = .ok (.aload_n 0, 1) := by decide +kernel
theorem dX5_advance_94 : decode cX5_advance 94 = .ok (.getfield 9, 3) := by decide +kernel
theorem dX5_advance_97 : decode cX5_advance 97 = .ok (.aload_n 0, 1) := by decide +kernel
theorem dX5_advance_98 : decode cX5_advance 98 = .ok (.getfield 38, 3) := by decide +kernel
theorem dX5_advance_101 : decode cX5_advance 101 = .ok (.iaload, 1) := by decide +kernel
theorem dX5_advance_102 : decode cX5_advance 102 = .ok (.goto 4, 3) := by decide +kernel
theorem dX5_advance_105 : decode cX5_advance 105 = .ok (.iconst (-1), 1) := by decide +kernel
theorem dX5_advance_106 : decode cX5_advance 106 = .ok (.putfield 44, 3) := by decide +kernel
theorem dX5_advance_109 : decode cX5_advance 109 = .ok (.return_, 1) := by decide +kernel
theorem dX5_isWord_0 : decode cX5_isWord 0 = .ok (.aload_n 0, 1) := by decide +kernel
theorem dX5_isWord_1 : decode cX5_isWord 1 = .ok (.getfield 41, 3) := by decide +kernel
theorem dX5_isWord_4 : decode cX5_isWord 4 = .ok (.aload_n 0, 1) := by decide +kernel
theorem dX5_isWord_5 : decode cX5_isWord 5 = .ok (.getfield 38, 3) := by decide +kernel
theorem dX5_isWord_8 : decode cX5_isWord 8 = .ok (.isub, 1) := by decide +kernel
theorem dX5_isWord_9 : decode cX5_isWord 9 = .ok (.aload_n 1, 1) := by decide +kernel
theorem dX5_isWord_10 : decode cX5_isWord 10 = .ok (.invokevirtual 47, 3) := by decide +kernel
theorem dX5_isWord_13 : decode cX5_isWord 13 = .ok (.if_icmp .eq 5, 3) := by decide +kernel
theorem dX5_isWord_16 : decode cX5_isWord 16 = .ok (.iconst 0, 1) := by decide +kernel
theorem dX5_isWord_17 : decode cX5_isWord 17 = .ok (.ireturn, 1) := by decide +kernel
theorem dX5_isWord_18 : decode cX5_isWord 18 = .ok (.iconst 0, 1) := by decide +kernel
theorem dX5_isWord_19 : decode cX5_isWord 19 = .ok (.istore_n 2, 1) := by decide +kernel
theorem dX5_isWord_20 : decode cX5_isWord 20 = .ok (.iload_n 2, 1) := by decide +kernel
theorem dX5_isWord_21 : decode cX5_isWord 21 = .ok (.aload_n 1, 1) := by decide +kernel
theorem dX5_isWord_22 : decode cX5_isWord 22 = .ok (.invokevirtual 47, 3) := by decide +kernel
theorem dX5_isWord_25 : decode cX5_isWord 25 = .ok (.if_icmp .ge 51, 3) := by decide +kernel
theorem dX5_isWord_28 : decode cX5_isWord 28 = .ok (.aload_n 0, 1) := by decide +kernel
theorem dX5_isWord_29 : decode cX5_isWord 29 = .ok (.getfield 38, 3) := by decide +kernel
theorem dX5_isWord_32 : decode cX5_isWord 32 = .ok (.iload_n 2, 1) := by decide +kernel
theorem dX5_isWord_33 : decode cX5_isWord 33 = .ok (.iadd, 1) := by decide +kernel
theorem dX5_isWord_34 : decode cX5_isWord 34 = .ok (.ifCond .lt 34, 3) := by decide +kernel
theorem dX5_isWord_37 : decode cX5_isWord 37 = .ok (.aload_n 0, 1) := by decide +kernel
theorem dX5_isWord_38 : decode cX5_isWord 38 = .ok (.getfield 38, 3) := by decide +kernel
theorem dX5_isWord_41 : decode cX5_isWord 41 = .ok (.iload_n 2, 1) := by decide +kernel
theorem dX5_isWord_42 : decode cX5_isWord 42 = .ok (.iadd, 1) := by decide +kernel
theorem dX5_isWord_43 : decode cX5_isWord 43 = .ok (.sipush 700, 3) := by decide +kernel
theorem dX5_isWord_46 : decode cX5_isWord 46 = .ok (.if_icmp .ge 22, 3) := by decide +kernel
theorem dX5_isWord_49 : decode cX5_isWord 49 = .ok (.aload_n 0, 1) := by decide +kernel
theorem dX5_isWord_50 : decode cX5_isWord 50 = .ok (.getfield 9, 3) := by decide +kernel
theorem dX5_isWord_53 : decode cX5_isWord 53 = .ok (.aload_n 0, 1) := by decide +kernel
theorem dX5_isWord_54 : decode cX5_isWord 54 = .ok (.getfield 38, 3) := by decide +kernel
theorem dX5_isWord_57 : decode cX5_isWord 57 = .ok (.iload_n 2, 1) := by decide +kernel
theorem dX5_isWord_58 : decode cX5_isWord 58 = .ok (.iadd, 1) := by decide +kernel
theorem dX5_isWord_59 : decode cX5_isWord 59 = .ok (.iaload, 1) := by decide +kernel
theorem dX5_isWord_60 : decode cX5_isWord 60 = .ok (.aload_n 1, 1) := by decide +kernel
theorem dX5_isWord_61 : decode cX5_isWord 61 = .ok (.iload_n 2, 1) := by decide +kernel
theorem dX5_isWord_62 : decode cX5_isWord 62 = .ok (.invokevirtual 53, 3) := by decide +kernel
theorem dX5_isWord_65 : decode cX5_isWord 65 = .ok (.if_icmp .eq 5, 3) := by decide +kernel
theorem dX5_isWord_68 : decode cX5_isWord 68 = .ok (.iconst 0, 1) := by decide +kernel
theorem dX5_isWord_69 : decode cX5_isWord 69 = .ok (.ireturn, 1) := by decide +kernel
theorem dX5_isWord_70 : decode cX5_isWord 70 = .ok (.iinc 2 1, 3) := by decide +kernel
theorem dX5_isWord_73 : decode cX5_isWord 73 = .ok (.goto (-53), 3) := by decide +kernel
theorem dX5_isWord_76 : decode cX5_isWord 76 = .ok (.iconst 1, 1) := by decide +kernel
theorem dX5_isWord_77 : decode cX5_isWord 77 = .ok (.ireturn, 1) := by decide +kernel
theorem dX5_name_0 : decode cX5_name 0 = .ok (.aload_n 0, 1) := by decide +kernel
theorem dX5_name_1 : decode cX5_name 1 = .ok (.getfield 41, 3) := by decide +kernel
theorem dX5_name_4 : decode cX5_name 4 = .ok (.aload_n 0, 1) := by decide +kernel
theorem dX5_name_5 : decode cX5_name 5 = .ok (.getfield 38, 3) := by decide +kernel
theorem dX5_name_8 : decode cX5_name 8 = .ok (.isub, 1) := by decide +kernel
theorem dX5_name_9 : decode cX5_name 9 = .ok (.iconst 1, 1) := by decide +kernel
theorem dX5_name_10 : decode cX5_name 10 = .ok (.if_icmp .ne 25, 3) := by decide +kernel
theorem dX5_name_13 : decode cX5_name 13 = .ok (.aload_n 0, 1) := by decide +kernel
theorem dX5_name_14 : decode cX5_name 14 = .ok (.getfield 44, 3) := by decide +kernel
theorem dX5_name_17 : decode cX5_name 17 = .ok (.bipush 97, 2) := by decide +kernel
theorem dX5_name_19 : decode cX5_name 19 = .ok (.if_icmp .lt 16, 3) := by decide +kernel
theorem dX5_name_22 : decode cX5_name 22 = .ok (.aload_n 0, 1) := by decide +kernel
theorem dX5_name_23 : decode cX5_name 23 = .ok (.getfield 44, 3) := by decide +kernel
theorem dX5_name_26 : decode cX5_name 26 = .ok (.bipush 105, 2) := by decide +kernel
theorem dX5_name_28 : decode cX5_name 28 = .ok (.if_icmp .ge 7, 3) := by decide +kernel
theorem dX5_name_31 : decode cX5_name 31 = .ok (.iconst 1, 1) := by decide +kernel
theorem dX5_name_32 : decode cX5_name 32 = .ok (.goto 4, 3) := by decide +kernel
theorem dX5_name_35 : decode cX5_name 35 = .ok (.iconst 0, 1) := by decide +kernel
theorem dX5_name_36 : decode cX5_name 36 = .ok (.istore_n 1, 1) := by decide +kernel
theorem dX5_name_37 : decode cX5_name 37 = .ok (.iload_n 1, 1) := by decide +kernel
theorem dX5_name_38 : decode cX5_name 38 = .ok (.ifCond .eq 13, 3) := by decide +kernel
theorem dX5_name_41 : decode cX5_name 41 = .ok (.aload_n 0, 1) := by decide +kernel
theorem dX5_name_42 : decode cX5_name 42 = .ok (.getfield 44, 3) := by decide +kernel
theorem dX5_name_45 : decode cX5_name 45 = .ok (.bipush 97, 2) := by decide +kernel
theorem dX5_name_47 : decode cX5_name 47 = .ok (.isub, 1) := by decide +kernel
theorem dX5_name_48 : decode cX5_name 48 = .ok (.goto 4, 3) := by decide +kernel
theorem dX5_name_51 : decode cX5_name 51 = .ok (.iconst (-1), 1) := by decide +kernel
theorem dX5_name_52 : decode cX5_name 52 = .ok (.ireturn, 1) := by decide +kernel
theorem dX5_isNumber_0 : decode cX5_isNumber 0 = .ok (.aload_n 0, 1) := by decide +kernel
theorem dX5_isNumber_1 : decode cX5_isNumber 1 = .ok (.getfield 44, 3) := by decide +kernel
theorem dX5_isNumber_4 : decode cX5_isNumber 4 = .ok (.bipush 48, 2) := by decide +kernel
theorem dX5_isNumber_6 : decode cX5_isNumber 6 = .ok (.if_icmp .lt 16, 3) := by decide +kernel
theorem dX5_isNumber_9 : decode cX5_isNumber 9 = .ok (.aload_n 0, 1) := by decide +kernel
theorem dX5_isNumber_10 : decode cX5_isNumber 10 = .ok (.getfield 44, 3) := by decide +kernel
theorem dX5_isNumber_13 : decode cX5_isNumber 13 = .ok (.bipush 57, 2) := by decide +kernel
theorem dX5_isNumber_15 : decode cX5_isNumber 15 = .ok (.if_icmp .gt 7, 3) := by decide +kernel
theorem dX5_isNumber_18 : decode cX5_isNumber 18 = .ok (.iconst 1, 1) := by decide +kernel
theorem dX5_isNumber_19 : decode cX5_isNumber 19 = .ok (.goto 4, 3) := by decide +kernel
theorem dX5_isNumber_22 : decode cX5_isNumber 22 = .ok (.iconst 0, 1) := by decide +kernel
theorem dX5_isNumber_23 : decode cX5_isNumber 23 = .ok (.ireturn, 1) := by decide +kernel
theorem dX5_number_0 : decode cX5_number 0 = .ok (.iconst 0, 1) := by decide +kernel
theorem dX5_number_1 : decode cX5_number 1 = .ok (.istore_n 1, 1) := by decide +kernel
theorem dX5_number_2 : decode cX5_number 2 = .ok (.aload_n 0, 1) := by decide +kernel
theorem dX5_number_3 : decode cX5_number 3 = .ok (.getfield 38, 3) := by decide +kernel
theorem dX5_number_6 : decode cX5_number 6 = .ok (.istore_n 2, 1) := by decide +kernel
theorem dX5_number_7 : decode cX5_number 7 = .ok (.iload_n 2, 1) := by decide +kernel
theorem dX5_number_8 : decode cX5_number 8 = .ok (.aload_n 0, 1) := by decide +kernel
theorem dX5_number_9 : decode cX5_number 9 = .ok (.getfield 41, 3) := by decide +kernel
theorem dX5_number_12 : decode cX5_number 12 = .ok (.if_icmp .ge 40, 3) := by decide +kernel
theorem dX5_number_15 : decode cX5_number 15 = .ok (.iload_n 2, 1) := by decide +kernel
theorem dX5_number_16 : decode cX5_number 16 = .ok (.ifCond .lt 36, 3) := by decide +kernel
theorem dX5_number_19 : decode cX5_number 19 = .ok (.iload_n 2, 1) := by decide +kernel
theorem dX5_number_20 : decode cX5_number 20 = .ok (.sipush 700, 3) := by decide +kernel
theorem dX5_number_23 : decode cX5_number 23 = .ok (.if_icmp .ge 29, 3) := by decide +kernel
theorem dX5_number_26 : decode cX5_number 26 = .ok (.bipush 10, 2) := by decide +kernel
theorem dX5_number_28 : decode cX5_number 28 = .ok (.iload_n 1, 1) := by decide +kernel
theorem dX5_number_29 : decode cX5_number 29 = .ok (.imul, 1) := by decide +kernel
theorem dX5_number_30 : decode cX5_number 30 = .ok (.aload_n 0, 1) := by decide +kernel
theorem dX5_number_31 : decode cX5_number 31 = .ok (.getfield 9, 3) := by decide +kernel
theorem dX5_number_34 : decode cX5_number 34 = .ok (.iload_n 2, 1) := by decide +kernel
theorem dX5_number_35 : decode cX5_number 35 = .ok (.iaload, 1) := by decide +kernel
theorem dX5_number_36 : decode cX5_number 36 = .ok (.iadd, 1) := by decide +kernel
theorem dX5_number_37 : decode cX5_number 37 = .ok (.bipush 48, 2) := by decide +kernel
theorem dX5_number_39 : decode cX5_number 39 = .ok (.isub, 1) := by decide +kernel
theorem dX5_number_40 : decode cX5_number 40 = .ok (.ldc 57, 2) := by decide +kernel
theorem dX5_number_42 : decode cX5_number 42 = .ok (.invokestatic 58, 3) := by decide +kernel
theorem dX5_number_45 : decode cX5_number 45 = .ok (.istore_n 1, 1) := by decide +kernel
theorem dX5_number_46 : decode cX5_number 46 = .ok (.iinc 2 1, 3) := by decide +kernel
theorem dX5_number_49 : decode cX5_number 49 = .ok (.goto (-42), 3) := by decide +kernel
theorem dX5_number_52 : decode cX5_number 52 = .ok (.iload_n 1, 1) := by decide +kernel
theorem dX5_number_53 : decode cX5_number 53 = .ok (.ireturn, 1) := by decide +kernel
theorem dX6_init_0 : decode cX6_init 0 = .ok (.aload_n 0, 1) := by decide +kernel
theorem dX6_init_1 : decode cX6_init 1 = .ok (.invokespecial 1, 3) := by decide +kernel
theorem dX6_init_4 : decode cX6_init 4 = .ok (.aload_n 0, 1) := by decide +kernel
theorem dX6_init_5 : decode cX6_init 5 = .ok (.new 7, 3) := by decide +kernel
theorem dX6_init_8 : decode cX6_init 8 = .ok (.dup, 1) := by decide +kernel
theorem dX6_init_9 : decode cX6_init 9 = .ok (.invokespecial 9, 3) := by decide +kernel
theorem dX6_init_12 : decode cX6_init 12 = .ok (.putfield 10, 3) := by decide +kernel
theorem dX6_init_15 : decode cX6_init 15 = .ok (.aload_n 0, 1) := by decide +kernel
theorem dX6_init_16 : decode cX6_init 16 = .ok (.new 16, 3) := by decide +kernel
theorem dX6_init_19 : decode cX6_init 19 = .ok (.dup, 1) := by decide +kernel
theorem dX6_init_20 : decode cX6_init 20 = .ok (.invokespecial 18, 3) := by decide +kernel
theorem dX6_init_23 : decode cX6_init 23 = .ok (.putfield 19, 3) := by decide +kernel
theorem dX6_init_26 : decode cX6_init 26 = .ok (.aload_n 0, 1) := by decide +kernel
theorem dX6_init_27 : decode cX6_init 27 = .ok (.new 23, 3) := by decide +kernel
theorem dX6_init_30 : decode cX6_init 30 = .ok (.dup, 1) := by decide +kernel
theorem dX6_init_31 : decode cX6_init 31 = .ok (.invokespecial 25, 3) := by decide +kernel
theorem dX6_init_34 : decode cX6_init 34 = .ok (.putfield 26, 3) := by decide +kernel
theorem dX6_init_37 : decode cX6_init 37 = .ok (.aload_n 0, 1) := by decide +kernel
theorem dX6_init_38 : decode cX6_init 38 = .ok (.new 30, 3) := by decide +kernel
theorem dX6_init_41 : decode cX6_init 41 = .ok (.dup, 1) := by decide +kernel
theorem dX6_init_42 : decode cX6_init 42 = .ok (.invokespecial 32, 3) := by decide +kernel
theorem dX6_init_45 : decode cX6_init 45 = .ok (.putfield 33, 3) := by decide +kernel
theorem dX6_init_48 : decode cX6_init 48 = .ok (.aload_n 0, 1) := by decide +kernel
theorem dX6_init_49 : decode cX6_init 49 = .ok (.new 37, 3) := by decide +kernel
theorem dX6_init_52 : decode cX6_init 52 = .ok (.dup, 1) := by decide +kernel
theorem dX6_init_53 : decode cX6_init 53 = .ok (.invokespecial 39, 3) := by decide +kernel
theorem dX6_init_56 : decode cX6_init 56 = .ok (.putfield 40, 3) := by decide +kernel
theorem dX6_init_59 : decode cX6_init 59 = .ok (.aload_n 0, 1) := by decide +kernel
theorem dX6_init_60 : decode cX6_init 60 = .ok (.iconst (-1), 1) := by decide +kernel
theorem dX6_init_61 : decode cX6_init 61 = .ok (.putfield 44, 3) := by decide +kernel
theorem dX6_init_64 : decode cX6_init 64 = .ok (.return_, 1) := by decide +kernel
theorem dX6_append_0 : decode cX6_append 0 = .ok (.aload_n 0, 1) := by decide +kernel
theorem dX6_append_1 : decode cX6_append 1 = .ok (.getfield 33, 3) := by decide +kernel
theorem dX6_append_4 : decode cX6_append 4 = .ok (.getfield 48, 3) := by decide +kernel
theorem dX6_append_7 : decode cX6_append 7 = .ok (.astore 6, 2) := by decide +kernel
theorem dX6_append_9 : decode cX6_append 9 = .ok (.aload 6, 2) := by decide +kernel
theorem dX6_append_11 : decode cX6_append 11 = .ok (.getfield 52, 3) := by decide +kernel
theorem dX6_append_14 : decode cX6_append 14 = .ok (.sipush 680, 3) := by decide +kernel
theorem dX6_append_17 : decode cX6_append 17 = .ok (.if_icmp .le 5, 3) := by decide +kernel
theorem dX6_append_20 : decode cX6_append 20 = .ok (.iconst (-1), 1) := by decide +kernel
theorem dX6_append_21 : decode cX6_append 21 = .ok (.ireturn, 1) := by decide +kernel
theorem dX6_append_22 : decode cX6_append 22 = .ok (.aload 6, 2) := by decide +kernel
theorem dX6_append_24 : decode cX6_append 24 = .ok (.iload_n 1, 1) := by decide +kernel
theorem dX6_append_25 : decode cX6_append 25 = .ok (.invokevirtual 57, 3) := by decide +kernel
theorem dX6_append_28 : decode cX6_append 28 = .ok (.aload 6, 2) := by decide +kernel
theorem dX6_append_30 : decode cX6_append 30 = .ok (.iload_n 2, 1) := by decide +kernel
theorem dX6_append_31 : decode cX6_append 31 = .ok (.invokevirtual 57, 3) := by decide +kernel
theorem dX6_append_34 : decode cX6_append 34 = .ok (.aload 6, 2) := by decide +kernel
theorem dX6_append_36 : decode cX6_append 36 = .ok (.iload_n 3, 1) := by decide +kernel
theorem dX6_append_37 : decode cX6_append 37 = .ok (.invokevirtual 57, 3) := by decide +kernel
theorem dX6_append_40 : decode cX6_append 40 = .ok (.aload 6, 2) := by decide +kernel
theorem dX6_append_42 : decode cX6_append 42 = .ok (.iload 4, 2) := by decide +kernel
theorem dX6_append_44 : decode cX6_append 44 = .ok (.invokevirtual 57, 3) := by decide +kernel
theorem dX6_append_47 : decode cX6_append 47 = .ok (.aload 6, 2) := by decide +kernel
theorem dX6_append_49 : decode cX6_append 49 = .ok (.iload 5, 2) := by decide +kernel
theorem dX6_append_51 : decode cX6_append 51 = .ok (.invokevirtual 57, 3) := by decide +kernel
theorem dX6_append_54 : decode cX6_append 54 = .ok (.aload 6, 2) := by decide +kernel
theorem dX6_append_56 : decode cX6_append 56 = .ok (.getfield 52, 3) := by decide +kernel
theorem dX6_append_59 : decode cX6_append 59 = .ok (.ireturn, 1) := by decide +kernel
theorem dX6_load_0 : decode cX6_load 0 = .ok (.iload_n 1, 1) := by decide +kernel
theorem dX6_load_1 : decode cX6_load 1 = .ok (.ifCond .lt 17, 3) := by decide +kernel
theorem dX6_load_4 : decode cX6_load 4 = .ok (.iload_n 1, 1) := by decide +kernel
theorem dX6_load_5 : decode cX6_load 5 = .ok (.aload_n 0, 1) := by decide +kernel
theorem dX6_load_6 : decode cX6_load 6 = .ok (.getfield 33, 3) := by decide +kernel
theorem dX6_load_9 : decode cX6_load 9 = .ok (.getfield 48, 3) := by decide +kernel
theorem dX6_load_12 : decode cX6_load 12 = .ok (.getfield 52, 3) := by decide +kernel
theorem dX6_load_15 : decode cX6_load 15 = .ok (.if_icmp .le 13, 3) := by decide +kernel
theorem dX6_load_18 : decode cX6_load 18 = .ok (.new 61, 3) := by decide +kernel
theorem dX6_load_21 : decode cX6_load 21 = .ok (.dup, 1) := by decide +kernel
theorem dX6_load_22 : decode cX6_load 22 = .ok (.ldc 63, 2) := by decide +kernel
theorem dX6_load_24 : decode cX6_load 24 = .ok (.invokespecial 65, 3) := by decide +kernel
theorem dX6_load_27 : decode cX6_load 27 = .ok (.athrow, 1) := by decide +kernel
theorem dX6_load_28 : decode cX6_load 28 = .ok (.aload_n 0, 1) := by decide +kernel
theorem dX6_load_29 : decode cX6_load 29 = .ok (.getfield 33, 3) := by decide +kernel
theorem dX6_load_32 : decode cX6_load 32 = .ok (.iload_n 1, 1) := by decide +kernel
theorem dX6_load_33 : decode cX6_load 33 = .ok (.invokevirtual 68, 3) := by decide +kernel
theorem dX6_load_36 : decode cX6_load 36 = .ok (.istore_n 2, 1) := by decide +kernel
theorem dX6_load_37 : decode cX6_load 37 = .ok (.aload_n 0, 1) := by decide +kernel
theorem dX6_load_38 : decode cX6_load 38 = .ok (.getfield 33, 3) := by decide +kernel
theorem dX6_load_41 : decode cX6_load 41 = .ok (.getfield 48, 3) := by decide +kernel
theorem dX6_load_44 : decode cX6_load 44 = .ok (.iconst 0, 1) := by decide +kernel
theorem dX6_load_45 : decode cX6_load 45 = .ok (.putfield 52, 3) := by decide +kernel
theorem dX6_load_48 : decode cX6_load 48 = .ok (.iload_n 2, 1) := by decide +kernel
theorem dX6_load_49 : decode cX6_load 49 = .ok (.ifCond .ne 25, 3) := by decide +kernel
theorem dX6_load_52 : decode cX6_load 52 = .ok (.aload_n 0, 1) := by decide +kernel
theorem dX6_load_53 : decode cX6_load 53 = .ok (.aload_n 0, 1) := by decide +kernel
theorem dX6_load_54 : decode cX6_load 54 = .ok (.getfield 33, 3) := by decide +kernel
theorem dX6_load_57 : decode cX6_load 57 = .ok (.getfield 48, 3) := by decide +kernel
theorem dX6_load_60 : decode cX6_load 60 = .ok (.getfield 72, 3) := by decide +kernel
theorem dX6_load_63 : decode cX6_load 63 = .ok (.putfield 44, 3) := by decide +kernel
theorem dX6_load_66 : decode cX6_load 66 = .ok (.aload_n 0, 1) := by decide +kernel
theorem dX6_load_67 : decode cX6_load 67 = .ok (.getfield 33, 3) := by decide +kernel
theorem dX6_load_70 : decode cX6_load 70 = .ok (.getfield 75, 3) := by decide +kernel
theorem dX6_load_73 : decode cX6_load 73 = .ok (.ireturn, 1) := by decide +kernel
theorem dX6_load_74 : decode cX6_load 74 = .ok (.aload_n 0, 1) := by decide +kernel
theorem dX6_load_75 : decode cX6_load 75 = .ok (.iconst (-1), 1) := by decide +kernel
theorem dX6_load_76 : decode cX6_load 76 = .ok (.putfield 44, 3) := by decide +kernel
theorem dX6_load_79 : decode cX6_load 79 = .ok (.aload_n 0, 1) := by decide +kernel
theorem dX6_load_80 : decode cX6_load 80 = .ok (.getfield 19, 3) := by decide +kernel
theorem dX6_load_83 : decode cX6_load 83 = .ok (.aload_n 0, 1) := by decide +kernel
theorem dX6_load_84 : decode cX6_load 84 = .ok (.getfield 10, 3) := by decide +kernel
theorem dX6_load_87 : decode cX6_load 87 = .ok (.invokevirtual 78, 3) := by decide +kernel
theorem dX6_load_90 : decode cX6_load 90 = .ok (.aload_n 0, 1) := by decide +kernel
theorem dX6_load_91 : decode cX6_load 91 = .ok (.getfield 10, 3) := by decide +kernel
theorem dX6_load_94 : decode cX6_load 94 = .ok (.aload_n 0, 1) := by decide +kernel
theorem dX6_load_95 : decode cX6_load 95 = .ok (.getfield 33, 3) := by decide +kernel
theorem dX6_load_98 : decode cX6_load 98 = .ok (.getfield 82, 3) := by decide +kernel
theorem dX6_load_101 : decode cX6_load 101 = .ok (.invokevirtual 85, 3) := by decide +kernel
theorem dX6_load_104 : decode cX6_load 104 = .ok (.aload_n 0, 1) := by decide +kernel
theorem dX6_load_105 : decode cX6_load 105 = .ok (.getfield 10, 3) := by decide +kernel
theorem dX6_load_108 : decode cX6_load 108 = .ok (.invokevirtual 88, 3) := by decide +kernel
theorem dX6_load_111 : decode cX6_load 111 = .ok (.ireturn, 1) := by decide +kernel
theorem dX6_errorOffset_0 : decode cX6_errorOffset 0 = .ok (.aload_n 0, 1) := by decide +kernel
theorem dX6_errorOffset_1 : decode cX6_errorOffset 1 = .ok (.getfield 44, 3) := by decide +kernel
theorem dX6_errorOffset_4 : decode cX6_errorOffset 4 = .ok (.ireturn, 1) := by decide +kernel
theorem dX6_defined_0 : decode cX6_defined 0 = .ok (.aload_n 0, 1) := by decide +kernel
theorem dX6_defined_1 : decode cX6_defined 1 = .ok (.getfield 10, 3) := by decide +kernel
theorem dX6_defined_4 : decode cX6_defined 4 = .ok (.getfield 92, 3) := by decide +kernel
theorem dX6_defined_7 : decode cX6_defined 7 = .ok (.ireturn, 1) := by decide +kernel
theorem dX6_coefficient_0 : decode cX6_coefficient 0 = .ok (.iload_n 1, 1) := by decide +kernel
theorem dX6_coefficient_1 : decode cX6_coefficient 1 = .ok (.invokestatic 95, 3) := by decide +kernel
theorem dX6_coefficient_4 : decode cX6_coefficient 4 = .ok (.aload_n 0, 1) := by decide +kernel
theorem dX6_coefficient_5 : decode cX6_coefficient 5 = .ok (.iload_n 1, 1) := by decide +kernel
theorem dX6_coefficient_6 : decode cX6_coefficient 6 = .ok (.invokevirtual 98, 3) := by decide +kernel
theorem dX6_coefficient_9 : decode cX6_coefficient 9 = .ok (.astore 4, 2) := by decide +kernel
theorem dX6_coefficient_11 : decode cX6_coefficient 11 = .ok (.aload 4, 2) := by decide +kernel
theorem dX6_coefficient_13 : decode cX6_coefficient 13 = .ok (.iload_n 2, 1) := by decide +kernel
theorem dX6_coefficient_14 : decode cX6_coefficient 14 = .ok (.iload_n 3, 1) := by decide +kernel
theorem dX6_coefficient_15 : decode cX6_coefficient 15 = .ok (.invokestatic 102, 3) := by decide +kernel
theorem dX6_coefficient_18 : decode cX6_coefficient 18 = .ok (.invokevirtual 106, 3) := by decide +kernel
theorem dX6_coefficient_21 : decode cX6_coefficient 21 = .ok (.l2i, 1) := by decide +kernel
theorem dX6_coefficient_22 : decode cX6_coefficient 22 = .ok (.ireturn, 1) := by decide +kernel
theorem dX6_remainder_0 : decode cX6_remainder 0 = .ok (.iload_n 1, 1) := by decide +kernel
theorem dX6_remainder_1 : decode cX6_remainder 1 = .ok (.invokestatic 95, 3) := by decide +kernel
theorem dX6_remainder_4 : decode cX6_remainder 4 = .ok (.aload_n 0, 1) := by decide +kernel
theorem dX6_remainder_5 : decode cX6_remainder 5 = .ok (.iload_n 1, 1) := by decide +kernel
theorem dX6_remainder_6 : decode cX6_remainder 6 = .ok (.invokevirtual 98, 3) := by decide +kernel
theorem dX6_remainder_9 : decode cX6_remainder 9 = .ok (.astore_n 3, 1) := by decide +kernel
theorem dX6_remainder_10 : decode cX6_remainder 10 = .ok (.iload_n 2, 1) := by decide +kernel
theorem dX6_remainder_11 : decode cX6_remainder 11 = .ok (.invokestatic 110, 3) := by decide +kernel
theorem dX6_remainder_14 : decode cX6_remainder 14 = .ok (.iload_n 2, 1) := by decide +kernel
theorem dX6_remainder_15 : decode cX6_remainder 15 = .ok (.ifCond .ne 10, 3) := by decide +kernel
theorem dX6_remainder_18 : decode cX6_remainder 18 = .ok (.aload_n 3, 1) := by decide +kernel
theorem dX6_remainder_19 : decode cX6_remainder 19 = .ok (.getfield 113, 3) := by decide +kernel
theorem dX6_remainder_22 : decode cX6_remainder 22 = .ok (.goto 7, 3) := by decide +kernel
theorem dX6_remainder_25 : decode cX6_remainder 25 = .ok (.aload_n 3, 1) := by decide +kernel
theorem dX6_remainder_26 : decode cX6_remainder 26 = .ok (.getfield 117, 3) := by decide +kernel
theorem dX6_remainder_29 : decode cX6_remainder 29 = .ok (.l2i, 1) := by decide +kernel
theorem dX6_remainder_30 : decode cX6_remainder 30 = .ok (.ireturn, 1) := by decide +kernel
theorem dX6_bound_0 : decode cX6_bound 0 = .ok (.iload_n 1, 1) := by decide +kernel
theorem dX6_bound_1 : decode cX6_bound 1 = .ok (.invokestatic 95, 3) := by decide +kernel
theorem dX6_bound_4 : decode cX6_bound 4 = .ok (.aload_n 0, 1) := by decide +kernel
theorem dX6_bound_5 : decode cX6_bound 5 = .ok (.iload_n 1, 1) := by decide +kernel
theorem dX6_bound_6 : decode cX6_bound 6 = .ok (.invokevirtual 98, 3) := by decide +kernel
theorem dX6_bound_9 : decode cX6_bound 9 = .ok (.astore_n 3, 1) := by decide +kernel
theorem dX6_bound_10 : decode cX6_bound 10 = .ok (.iload_n 2, 1) := by decide +kernel
theorem dX6_bound_11 : decode cX6_bound 11 = .ok (.invokestatic 110, 3) := by decide +kernel
theorem dX6_bound_14 : decode cX6_bound 14 = .ok (.iload_n 2, 1) := by decide +kernel
theorem dX6_bound_15 : decode cX6_bound 15 = .ok (.ifCond .ne 10, 3) := by decide +kernel
theorem dX6_bound_18 : decode cX6_bound 18 = .ok (.aload_n 3, 1) := by decide +kernel
theorem dX6_bound_19 : decode cX6_bound 19 = .ok (.invokevirtual 120, 3) := by decide +kernel
theorem dX6_bound_22 : decode cX6_bound 22 = .ok (.goto 7, 3) := by decide +kernel
theorem dX6_bound_25 : decode cX6_bound 25 = .ok (.aload_n 3, 1) := by decide +kernel
theorem dX6_bound_26 : decode cX6_bound 26 = .ok (.invokevirtual 124, 3) := by decide +kernel
theorem dX6_bound_29 : decode cX6_bound 29 = .ok (.l2i, 1) := by decide +kernel
theorem dX6_bound_30 : decode cX6_bound 30 = .ok (.ireturn, 1) := by decide +kernel
theorem dX6_value_0 : decode cX6_value 0 = .ok (.iload_n 1, 1) := by decide +kernel
theorem dX6_value_1 : decode cX6_value 1 = .ok (.invokestatic 95, 3) := by decide +kernel
theorem dX6_value_4 : decode cX6_value 4 = .ok (.aload_n 0, 1) := by decide +kernel
theorem dX6_value_5 : decode cX6_value 5 = .ok (.iload_n 1, 1) := by decide +kernel
theorem dX6_value_6 : decode cX6_value 6 = .ok (.invokevirtual 98, 3) := by decide +kernel
theorem dX6_value_9 : decode cX6_value 9 = .ok (.astore 5, 2) := by decide +kernel
theorem dX6_value_11 : decode cX6_value 11 = .ok (.iload_n 2, 1) := by decide +kernel
theorem dX6_value_12 : decode cX6_value 12 = .ok (.i2l, 1) := by decide +kernel
theorem dX6_value_13 : decode cX6_value 13 = .ok (.ldc2_w 127, 3) := by decide +kernel
theorem dX6_value_16 : decode cX6_value 16 = .ok (.ldc2_w 129, 3) := by decide +kernel
theorem dX6_value_19 : decode cX6_value 19 = .ok (.invokestatic 131, 3) := by decide +kernel
theorem dX6_value_22 : decode cX6_value 22 = .ok (.iload_n 3, 1) := by decide +kernel
theorem dX6_value_23 : decode cX6_value 23 = .ok (.i2l, 1) := by decide +kernel
theorem dX6_value_24 : decode cX6_value 24 = .ok (.ldc2_w 127, 3) := by decide +kernel
theorem dX6_value_27 : decode cX6_value 27 = .ok (.ldc2_w 129, 3) := by decide +kernel
theorem dX6_value_30 : decode cX6_value 30 = .ok (.invokestatic 131, 3) := by decide +kernel
theorem dX6_value_33 : decode cX6_value 33 = .ok (.iload 4, 2) := by decide +kernel
theorem dX6_value_35 : decode cX6_value 35 = .ok (.invokestatic 110, 3) := by decide +kernel
theorem dX6_value_38 : decode cX6_value 38 = .ok (.aload 5, 2) := by decide +kernel
theorem dX6_value_40 : decode cX6_value 40 = .ok (.iload_n 2, 1) := by decide +kernel
theorem dX6_value_41 : decode cX6_value 41 = .ok (.i2l, 1) := by decide +kernel
theorem dX6_value_42 : decode cX6_value 42 = .ok (.iload_n 3, 1) := by decide +kernel
theorem dX6_value_43 : decode cX6_value 43 = .ok (.i2l, 1) := by decide +kernel
theorem dX6_value_44 : decode cX6_value 44 = .ok (.invokevirtual 135, 3) := by decide +kernel
theorem dX6_value_47 : decode cX6_value 47 = .ok (.lstore 6, 2) := by decide +kernel
theorem dX6_value_49 : decode cX6_value 49 = .ok (.iload 4, 2) := by decide +kernel
theorem dX6_value_51 : decode cX6_value 51 = .ok (.ifCond .ne 20, 3) := by decide +kernel
theorem dX6_value_54 : decode cX6_value 54 = .ok (.aload 5, 2) := by decide +kernel
theorem dX6_value_56 : decode cX6_value 56 = .ok (.getfield 113, 3) := by decide +kernel
theorem dX6_value_59 : decode cX6_value 59 = .ok (.lload 6, 2) := by decide +kernel
theorem dX6_value_61 : decode cX6_value 61 = .ok (.ldc2_w 139, 3) := by decide +kernel
theorem dX6_value_64 : decode cX6_value 64 = .ok (.invokestatic 141, 3) := by decide +kernel
theorem dX6_value_67 : decode cX6_value 67 = .ok (.ladd, 1) := by decide +kernel
theorem dX6_value_68 : decode cX6_value 68 = .ok (.goto 18, 3) := by decide +kernel
theorem dX6_value_71 : decode cX6_value 71 = .ok (.aload 5, 2) := by decide +kernel
theorem dX6_value_73 : decode cX6_value 73 = .ok (.getfield 117, 3) := by decide +kernel
theorem dX6_value_76 : decode cX6_value 76 = .ok (.lload 6, 2) := by decide +kernel
theorem dX6_value_78 : decode cX6_value 78 = .ok (.lneg, 1) := by decide +kernel
theorem dX6_value_79 : decode cX6_value 79 = .ok (.ldc2_w 139, 3) := by decide +kernel
theorem dX6_value_82 : decode cX6_value 82 = .ok (.invokestatic 141, 3) := by decide +kernel
theorem dX6_value_85 : decode cX6_value 85 = .ok (.lsub, 1) := by decide +kernel
theorem dX6_value_86 : decode cX6_value 86 = .ok (.l2i, 1) := by decide +kernel
theorem dX6_value_87 : decode cX6_value 87 = .ok (.ireturn, 1) := by decide +kernel
theorem dX6_degree_0 : decode cX6_degree 0 = .ok (.iload_n 1, 1) := by decide +kernel
theorem dX6_degree_1 : decode cX6_degree 1 = .ok (.invokestatic 95, 3) := by decide +kernel
theorem dX6_degree_4 : decode cX6_degree 4 = .ok (.aload_n 0, 1) := by decide +kernel
theorem dX6_degree_5 : decode cX6_degree 5 = .ok (.iload_n 1, 1) := by decide +kernel
theorem dX6_degree_6 : decode cX6_degree 6 = .ok (.invokevirtual 98, 3) := by decide +kernel
theorem dX6_degree_9 : decode cX6_degree 9 = .ok (.invokevirtual 146, 3) := by decide +kernel
theorem dX6_degree_12 : decode cX6_degree 12 = .ok (.ireturn, 1) := by decide +kernel
theorem dX6_covers_0 : decode cX6_covers 0 = .ok (.iload_n 1, 1) := by decide +kernel
theorem dX6_covers_1 : decode cX6_covers 1 = .ok (.invokestatic 95, 3) := by decide +kernel
theorem dX6_covers_4 : decode cX6_covers 4 = .ok (.iload_n 2, 1) := by decide +kernel
theorem dX6_covers_5 : decode cX6_covers 5 = .ok (.invokestatic 95, 3) := by decide +kernel
theorem dX6_covers_8 : decode cX6_covers 8 = .ok (.aload_n 0, 1) := by decide +kernel
theorem dX6_covers_9 : decode cX6_covers 9 = .ok (.iload_n 1, 1) := by decide +kernel
theorem dX6_covers_10 : decode cX6_covers 10 = .ok (.invokevirtual 98, 3) := by decide +kernel
theorem dX6_covers_13 : decode cX6_covers 13 = .ok (.astore_n 3, 1) := by decide +kernel
theorem dX6_covers_14 : decode cX6_covers 14 = .ok (.aload_n 0, 1) := by decide +kernel
theorem dX6_covers_15 : decode cX6_covers 15 = .ok (.iload_n 2, 1) := by decide +kernel
theorem dX6_covers_16 : decode cX6_covers 16 = .ok (.invokevirtual 98, 3) := by decide +kernel
theorem dX6_covers_19 : decode cX6_covers 19 = .ok (.astore 4, 2) := by decide +kernel
theorem dX6_covers_21 : decode cX6_covers 21 = .ok (.aload_n 3, 1) := by decide +kernel
theorem dX6_covers_22 : decode cX6_covers 22 = .ok (.aload 4, 2) := by decide +kernel
theorem dX6_covers_24 : decode cX6_covers 24 = .ok (.invokevirtual 149, 3) := by decide +kernel
theorem dX6_covers_27 : decode cX6_covers 27 = .ok (.ireturn, 1) := by decide +kernel
theorem dX6_reason_0 : decode cX6_reason 0 = .ok (.iload_n 1, 1) := by decide +kernel
theorem dX6_reason_1 : decode cX6_reason 1 = .ok (.invokestatic 95, 3) := by decide +kernel
theorem dX6_reason_4 : decode cX6_reason 4 = .ok (.iload_n 2, 1) := by decide +kernel
theorem dX6_reason_5 : decode cX6_reason 5 = .ok (.invokestatic 95, 3) := by decide +kernel
theorem dX6_reason_8 : decode cX6_reason 8 = .ok (.iload_n 3, 1) := by decide +kernel
theorem dX6_reason_9 : decode cX6_reason 9 = .ok (.invokestatic 95, 3) := by decide +kernel
theorem dX6_reason_12 : decode cX6_reason 12 = .ok (.aload_n 0, 1) := by decide +kernel
theorem dX6_reason_13 : decode cX6_reason 13 = .ok (.iload_n 1, 1) := by decide +kernel
theorem dX6_reason_14 : decode cX6_reason 14 = .ok (.invokevirtual 98, 3) := by decide +kernel
theorem dX6_reason_17 : decode cX6_reason 17 = .ok (.astore 4, 2) := by decide +kernel
theorem dX6_reason_19 : decode cX6_reason 19 = .ok (.aload_n 0, 1) := by decide +kernel
theorem dX6_reason_20 : decode cX6_reason 20 = .ok (.iload_n 2, 1) := by decide +kernel
theorem dX6_reason_21 : decode cX6_reason 21 = .ok (.invokevirtual 98, 3) := by decide +kernel
theorem dX6_reason_24 : decode cX6_reason 24 = .ok (.astore 5, 2) := by decide +kernel
theorem dX6_reason_26 : decode cX6_reason 26 = .ok (.aload_n 0, 1) := by decide +kernel
theorem dX6_reason_27 : decode cX6_reason 27 = .ok (.iload_n 3, 1) := by decide +kernel
theorem dX6_reason_28 : decode cX6_reason 28 = .ok (.invokevirtual 98, 3) := by decide +kernel
theorem dX6_reason_31 : decode cX6_reason 31 = .ok (.astore 6, 2) := by decide +kernel
theorem dX6_reason_33 : decode cX6_reason 33 = .ok (.aload 5, 2) := by decide +kernel
theorem dX6_reason_35 : decode cX6_reason 35 = .ok (.invokevirtual 153, 3) := by decide +kernel
theorem dX6_reason_38 : decode cX6_reason 38 = .ok (.ifCond .ne 5, 3) := by decide +kernel
theorem dX6_reason_41 : decode cX6_reason 41 = .ok (.iconst 1, 1) := by decide +kernel
theorem dX6_reason_42 : decode cX6_reason 42 = .ok (.ireturn, 1) := by decide +kernel
theorem dX6_reason_43 : decode cX6_reason 43 = .ok (.aload 6, 2) := by decide +kernel
theorem dX6_reason_45 : decode cX6_reason 45 = .ok (.invokevirtual 153, 3) := by decide +kernel
theorem dX6_reason_48 : decode cX6_reason 48 = .ok (.ifCond .ne 5, 3) := by decide +kernel
theorem dX6_reason_51 : decode cX6_reason 51 = .ok (.iconst 2, 1) := by decide +kernel
theorem dX6_reason_52 : decode cX6_reason 52 = .ok (.ireturn, 1) := by decide +kernel
theorem dX6_reason_53 : decode cX6_reason 53 = .ok (.aload_n 0, 1) := by decide +kernel
theorem dX6_reason_54 : decode cX6_reason 54 = .ok (.getfield 26, 3) := by decide +kernel
theorem dX6_reason_57 : decode cX6_reason 57 = .ok (.aload_n 0, 1) := by decide +kernel
theorem dX6_reason_58 : decode cX6_reason 58 = .ok (.getfield 40, 3) := by decide +kernel
theorem dX6_reason_61 : decode cX6_reason 61 = .ok (.aload 4, 2) := by decide +kernel
theorem dX6_reason_63 : decode cX6_reason 63 = .ok (.aload 5, 2) := by decide +kernel
theorem dX6_reason_65 : decode cX6_reason 65 = .ok (.aload 6, 2) := by decide +kernel
theorem dX6_reason_67 : decode cX6_reason 67 = .ok (.invokevirtual 157, 3) := by decide +kernel
theorem dX6_reason_70 : decode cX6_reason 70 = .ok (.ifCond .eq 7, 3) := by decide +kernel
theorem dX6_reason_73 : decode cX6_reason 73 = .ok (.iconst 0, 1) := by decide +kernel
theorem dX6_reason_74 : decode cX6_reason 74 = .ok (.goto 4, 3) := by decide +kernel
theorem dX6_reason_77 : decode cX6_reason 77 = .ok (.iconst 3, 1) := by decide +kernel
theorem dX6_reason_78 : decode cX6_reason 78 = .ok (.ireturn, 1) := by decide +kernel
theorem dX6_add_0 : decode cX6_add 0 = .ok (.iload_n 1, 1) := by decide +kernel
theorem dX6_add_1 : decode cX6_add 1 = .ok (.invokestatic 95, 3) := by decide +kernel
theorem dX6_add_4 : decode cX6_add 4 = .ok (.iload_n 2, 1) := by decide +kernel
theorem dX6_add_5 : decode cX6_add 5 = .ok (.invokestatic 95, 3) := by decide +kernel
theorem dX6_add_8 : decode cX6_add 8 = .ok (.iload_n 3, 1) := by decide +kernel
theorem dX6_add_9 : decode cX6_add 9 = .ok (.invokestatic 95, 3) := by decide +kernel
theorem dX6_add_12 : decode cX6_add 12 = .ok (.aload_n 0, 1) := by decide +kernel
theorem dX6_add_13 : decode cX6_add 13 = .ok (.iload_n 2, 1) := by decide +kernel
theorem dX6_add_14 : decode cX6_add 14 = .ok (.invokevirtual 98, 3) := by decide +kernel
theorem dX6_add_17 : decode cX6_add 17 = .ok (.astore 4, 2) := by decide +kernel
theorem dX6_add_19 : decode cX6_add 19 = .ok (.aload_n 0, 1) := by decide +kernel
theorem dX6_add_20 : decode cX6_add 20 = .ok (.iload_n 3, 1) := by decide +kernel
theorem dX6_add_21 : decode cX6_add 21 = .ok (.invokevirtual 98, 3) := by decide +kernel
theorem dX6_add_24 : decode cX6_add 24 = .ok (.astore 5, 2) := by decide +kernel
theorem dX6_add_26 : decode cX6_add 26 = .ok (.aload_n 0, 1) := by decide +kernel
theorem dX6_add_27 : decode cX6_add 27 = .ok (.iload_n 1, 1) := by decide +kernel
theorem dX6_add_28 : decode cX6_add 28 = .ok (.aload_n 0, 1) := by decide +kernel
theorem dX6_add_29 : decode cX6_add 29 = .ok (.getfield 26, 3) := by decide +kernel
theorem dX6_add_32 : decode cX6_add 32 = .ok (.aload_n 0, 1) := by decide +kernel
theorem dX6_add_33 : decode cX6_add 33 = .ok (.getfield 40, 3) := by decide +kernel
theorem dX6_add_36 : decode cX6_add 36 = .ok (.aload 4, 2) := by decide +kernel
theorem dX6_add_38 : decode cX6_add 38 = .ok (.aload 5, 2) := by decide +kernel
theorem dX6_add_40 : decode cX6_add 40 = .ok (.invokevirtual 161, 3) := by decide +kernel
theorem dX6_add_43 : decode cX6_add 43 = .ok (.invokevirtual 165, 3) := by decide +kernel
theorem dX6_add_46 : decode cX6_add 46 = .ok (.ireturn, 1) := by decide +kernel
theorem dX6_subtract_0 : decode cX6_subtract 0 = .ok (.iload_n 1, 1) := by decide +kernel
theorem dX6_subtract_1 : decode cX6_subtract 1 = .ok (.invokestatic 95, 3) := by decide +kernel
theorem dX6_subtract_4 : decode cX6_subtract 4 = .ok (.iload_n 2, 1) := by decide +kernel
theorem dX6_subtract_5 : decode cX6_subtract 5 = .ok (.invokestatic 95, 3) := by decide +kernel
theorem dX6_subtract_8 : decode cX6_subtract 8 = .ok (.iload_n 3, 1) := by decide +kernel
theorem dX6_subtract_9 : decode cX6_subtract 9 = .ok (.invokestatic 95, 3) := by decide +kernel
theorem dX6_subtract_12 : decode cX6_subtract 12 = .ok (.aload_n 0, 1) := by decide +kernel
theorem dX6_subtract_13 : decode cX6_subtract 13 = .ok (.iload_n 2, 1) := by decide +kernel
theorem dX6_subtract_14 : decode cX6_subtract 14 = .ok (.invokevirtual 98, 3) := by decide +kernel
theorem dX6_subtract_17 : decode cX6_subtract 17 = .ok (.astore 4, 2) := by decide +kernel
theorem dX6_subtract_19 : decode cX6_subtract 19 = .ok (.aload_n 0, 1) := by decide +kernel
theorem dX6_subtract_20 : decode cX6_subtract 20 = .ok (.iload_n 3, 1) := by decide +kernel
theorem dX6_subtract_21 : decode cX6_subtract 21 = .ok (.invokevirtual 98, 3) := by decide +kernel
theorem dX6_subtract_24 : decode cX6_subtract 24 = .ok (.astore 5, 2) := by decide +kernel
theorem dX6_subtract_26 : decode cX6_subtract 26 = .ok (.aload_n 0, 1) := by decide +kernel
theorem dX6_subtract_27 : decode cX6_subtract 27 = .ok (.iload_n 1, 1) := by decide +kernel
theorem dX6_subtract_28 : decode cX6_subtract 28 = .ok (.aload_n 0, 1) := by decide +kernel
theorem dX6_subtract_29 : decode cX6_subtract 29 = .ok (.getfield 26, 3) := by decide +kernel
theorem dX6_subtract_32 : decode cX6_subtract 32 = .ok (.aload_n 0, 1) := by decide +kernel
theorem dX6_subtract_33 : decode cX6_subtract 33 = .ok (.getfield 40, 3) := by decide +kernel
theorem dX6_subtract_36 : decode cX6_subtract 36 = .ok (.aload 4, 2) := by decide +kernel
theorem dX6_subtract_38 : decode cX6_subtract 38 = .ok (.aload 5, 2) := by decide +kernel
theorem dX6_subtract_40 : decode cX6_subtract 40 = .ok (.invokevirtual 169, 3) := by decide +kernel
theorem dX6_subtract_43 : decode cX6_subtract 43 = .ok (.invokevirtual 165, 3) := by decide +kernel
theorem dX6_subtract_46 : decode cX6_subtract 46 = .ok (.ireturn, 1) := by decide +kernel
theorem dX6_multiply_0 : decode cX6_multiply 0 = .ok (.iload_n 1, 1) := by decide +kernel
theorem dX6_multiply_1 : decode cX6_multiply 1 = .ok (.invokestatic 95, 3) := by decide +kernel
theorem dX6_multiply_4 : decode cX6_multiply 4 = .ok (.iload_n 2, 1) := by decide +kernel
theorem dX6_multiply_5 : decode cX6_multiply 5 = .ok (.invokestatic 95, 3) := by decide +kernel
theorem dX6_multiply_8 : decode cX6_multiply 8 = .ok (.iload_n 3, 1) := by decide +kernel
theorem dX6_multiply_9 : decode cX6_multiply 9 = .ok (.invokestatic 95, 3) := by decide +kernel
theorem dX6_multiply_12 : decode cX6_multiply 12 = .ok (.aload_n 0, 1) := by decide +kernel
theorem dX6_multiply_13 : decode cX6_multiply 13 = .ok (.iload_n 2, 1) := by decide +kernel
theorem dX6_multiply_14 : decode cX6_multiply 14 = .ok (.invokevirtual 98, 3) := by decide +kernel
theorem dX6_multiply_17 : decode cX6_multiply 17 = .ok (.astore 4, 2) := by decide +kernel
theorem dX6_multiply_19 : decode cX6_multiply 19 = .ok (.aload_n 0, 1) := by decide +kernel
theorem dX6_multiply_20 : decode cX6_multiply 20 = .ok (.iload_n 3, 1) := by decide +kernel
theorem dX6_multiply_21 : decode cX6_multiply 21 = .ok (.invokevirtual 98, 3) := by decide +kernel
theorem dX6_multiply_24 : decode cX6_multiply 24 = .ok (.astore 5, 2) := by decide +kernel
theorem dX6_multiply_26 : decode cX6_multiply 26 = .ok (.aload_n 0, 1) := by decide +kernel
theorem dX6_multiply_27 : decode cX6_multiply 27 = .ok (.iload_n 1, 1) := by decide +kernel
theorem dX6_multiply_28 : decode cX6_multiply 28 = .ok (.aload_n 0, 1) := by decide +kernel
theorem dX6_multiply_29 : decode cX6_multiply 29 = .ok (.getfield 26, 3) := by decide +kernel
theorem dX6_multiply_32 : decode cX6_multiply 32 = .ok (.aload_n 0, 1) := by decide +kernel
theorem dX6_multiply_33 : decode cX6_multiply 33 = .ok (.getfield 40, 3) := by decide +kernel
theorem dX6_multiply_36 : decode cX6_multiply 36 = .ok (.aload 4, 2) := by decide +kernel
theorem dX6_multiply_38 : decode cX6_multiply 38 = .ok (.aload 5, 2) := by decide +kernel
theorem dX6_multiply_40 : decode cX6_multiply 40 = .ok (.invokevirtual 172, 3) := by decide +kernel
theorem dX6_multiply_43 : decode cX6_multiply 43 = .ok (.invokevirtual 165, 3) := by decide +kernel
theorem dX6_multiply_46 : decode cX6_multiply 46 = .ok (.ireturn, 1) := by decide +kernel
theorem dX6_compose_0 : decode cX6_compose 0 = .ok (.iload_n 1, 1) := by decide +kernel
theorem dX6_compose_1 : decode cX6_compose 1 = .ok (.invokestatic 95, 3) := by decide +kernel
theorem dX6_compose_4 : decode cX6_compose 4 = .ok (.iload_n 2, 1) := by decide +kernel
theorem dX6_compose_5 : decode cX6_compose 5 = .ok (.invokestatic 95, 3) := by decide +kernel
theorem dX6_compose_8 : decode cX6_compose 8 = .ok (.iload_n 3, 1) := by decide +kernel
theorem dX6_compose_9 : decode cX6_compose 9 = .ok (.invokestatic 95, 3) := by decide +kernel
theorem dX6_compose_12 : decode cX6_compose 12 = .ok (.iload 4, 2) := by decide +kernel
theorem dX6_compose_14 : decode cX6_compose 14 = .ok (.invokestatic 95, 3) := by decide +kernel
theorem dX6_compose_17 : decode cX6_compose 17 = .ok (.aload_n 0, 1) := by decide +kernel
theorem dX6_compose_18 : decode cX6_compose 18 = .ok (.iload_n 2, 1) := by decide +kernel
theorem dX6_compose_19 : decode cX6_compose 19 = .ok (.invokevirtual 98, 3) := by decide +kernel
theorem dX6_compose_22 : decode cX6_compose 22 = .ok (.astore 5, 2) := by decide +kernel
theorem dX6_compose_24 : decode cX6_compose 24 = .ok (.aload_n 0, 1) := by decide +kernel
theorem dX6_compose_25 : decode cX6_compose 25 = .ok (.iload_n 3, 1) := by decide +kernel
theorem dX6_compose_26 : decode cX6_compose 26 = .ok (.invokevirtual 98, 3) := by decide +kernel
theorem dX6_compose_29 : decode cX6_compose 29 = .ok (.astore 6, 2) := by decide +kernel
theorem dX6_compose_31 : decode cX6_compose 31 = .ok (.aload_n 0, 1) := by decide +kernel
theorem dX6_compose_32 : decode cX6_compose 32 = .ok (.iload 4, 2) := by decide +kernel
theorem dX6_compose_34 : decode cX6_compose 34 = .ok (.invokevirtual 98, 3) := by decide +kernel
theorem dX6_compose_37 : decode cX6_compose 37 = .ok (.astore 7, 2) := by decide +kernel
theorem dX6_compose_39 : decode cX6_compose 39 = .ok (.aload_n 0, 1) := by decide +kernel
theorem dX6_compose_40 : decode cX6_compose 40 = .ok (.iload_n 1, 1) := by decide +kernel
theorem dX6_compose_41 : decode cX6_compose 41 = .ok (.aload_n 0, 1) := by decide +kernel
theorem dX6_compose_42 : decode cX6_compose 42 = .ok (.getfield 26, 3) := by decide +kernel
theorem dX6_compose_45 : decode cX6_compose 45 = .ok (.aload_n 0, 1) := by decide +kernel
theorem dX6_compose_46 : decode cX6_compose 46 = .ok (.getfield 40, 3) := by decide +kernel
theorem dX6_compose_49 : decode cX6_compose 49 = .ok (.aload 5, 2) := by decide +kernel
theorem dX6_compose_51 : decode cX6_compose 51 = .ok (.aload 6, 2) := by decide +kernel
theorem dX6_compose_53 : decode cX6_compose 53 = .ok (.aload 7, 2) := by decide +kernel
theorem dX6_compose_55 : decode cX6_compose 55 = .ok (.invokevirtual 157, 3) := by decide +kernel
theorem dX6_compose_58 : decode cX6_compose 58 = .ok (.invokevirtual 165, 3) := by decide +kernel
theorem dX6_compose_61 : decode cX6_compose 61 = .ok (.ireturn, 1) := by decide +kernel
theorem dX6_integrate_0 : decode cX6_integrate 0 = .ok (.iload_n 1, 1) := by decide +kernel
theorem dX6_integrate_1 : decode cX6_integrate 1 = .ok (.invokestatic 95, 3) := by decide +kernel
theorem dX6_integrate_4 : decode cX6_integrate 4 = .ok (.iload_n 2, 1) := by decide +kernel
theorem dX6_integrate_5 : decode cX6_integrate 5 = .ok (.invokestatic 95, 3) := by decide +kernel
theorem dX6_integrate_8 : decode cX6_integrate 8 = .ok (.aload_n 0, 1) := by decide +kernel
theorem dX6_integrate_9 : decode cX6_integrate 9 = .ok (.iload_n 2, 1) := by decide +kernel
theorem dX6_integrate_10 : decode cX6_integrate 10 = .ok (.invokevirtual 98, 3) := by decide +kernel
theorem dX6_integrate_13 : decode cX6_integrate 13 = .ok (.astore 4, 2) := by decide +kernel
theorem dX6_integrate_15 : decode cX6_integrate 15 = .ok (.iload_n 3, 1) := by decide +kernel
theorem dX6_integrate_16 : decode cX6_integrate 16 = .ok (.invokestatic 110, 3) := by decide +kernel
theorem dX6_integrate_19 : decode cX6_integrate 19 = .ok (.aload_n 0, 1) := by decide +kernel
theorem dX6_integrate_20 : decode cX6_integrate 20 = .ok (.iload_n 1, 1) := by decide +kernel
theorem dX6_integrate_21 : decode cX6_integrate 21 = .ok (.aload_n 0, 1) := by decide +kernel
theorem dX6_integrate_22 : decode cX6_integrate 22 = .ok (.getfield 26, 3) := by decide +kernel
theorem dX6_integrate_25 : decode cX6_integrate 25 = .ok (.aload_n 0, 1) := by decide +kernel
theorem dX6_integrate_26 : decode cX6_integrate 26 = .ok (.getfield 40, 3) := by decide +kernel
theorem dX6_integrate_29 : decode cX6_integrate 29 = .ok (.aload 4, 2) := by decide +kernel
theorem dX6_integrate_31 : decode cX6_integrate 31 = .ok (.iload_n 3, 1) := by decide +kernel
theorem dX6_integrate_32 : decode cX6_integrate 32 = .ok (.invokevirtual 175, 3) := by decide +kernel
theorem dX6_integrate_35 : decode cX6_integrate 35 = .ok (.invokevirtual 165, 3) := by decide +kernel
theorem dX6_integrate_38 : decode cX6_integrate 38 = .ok (.ireturn, 1) := by decide +kernel
theorem dX6_step_0 : decode cX6_step 0 = .ok (.aload_n 0, 1) := by decide +kernel
theorem dX6_step_1 : decode cX6_step 1 = .ok (.iconst 0, 1) := by decide +kernel
theorem dX6_step_2 : decode cX6_step 2 = .ok (.invokevirtual 98, 3) := by decide +kernel
theorem dX6_step_5 : decode cX6_step 5 = .ok (.astore_n 3, 1) := by decide +kernel
theorem dX6_step_6 : decode cX6_step 6 = .ok (.aload_n 0, 1) := by decide +kernel
theorem dX6_step_7 : decode cX6_step 7 = .ok (.iconst 1, 1) := by decide +kernel
theorem dX6_step_8 : decode cX6_step 8 = .ok (.invokevirtual 98, 3) := by decide +kernel
theorem dX6_step_11 : decode cX6_step 11 = .ok (.astore 4, 2) := by decide +kernel
theorem dX6_step_13 : decode cX6_step 13 = .ok (.aload_n 0, 1) := by decide +kernel
theorem dX6_step_14 : decode cX6_step 14 = .ok (.iconst 2, 1) := by decide +kernel
theorem dX6_step_15 : decode cX6_step 15 = .ok (.invokevirtual 98, 3) := by decide +kernel
theorem dX6_step_18 : decode cX6_step 18 = .ok (.astore 5, 2) := by decide +kernel
theorem dX6_step_20 : decode cX6_step 20 = .ok (.aload_n 0, 1) := by decide +kernel
theorem dX6_step_21 : decode cX6_step 21 = .ok (.iconst 3, 1) := by decide +kernel
theorem dX6_step_22 : decode cX6_step 22 = .ok (.invokevirtual 98, 3) := by decide +kernel
theorem dX6_step_25 : decode cX6_step 25 = .ok (.astore 6, 2) := by decide +kernel
theorem dX6_step_27 : decode cX6_step 27 = .ok (.iload_n 1, 1) := by decide +kernel
theorem dX6_step_28 : decode cX6_step 28 = .ok (.i2l, 1) := by decide +kernel
theorem dX6_step_29 : decode cX6_step 29 = .ok (.ldc2_w 127, 3) := by decide +kernel
theorem dX6_step_32 : decode cX6_step 32 = .ok (.ldc2_w 129, 3) := by decide +kernel
theorem dX6_step_35 : decode cX6_step 35 = .ok (.invokestatic 131, 3) := by decide +kernel
theorem dX6_step_38 : decode cX6_step 38 = .ok (.iload_n 2, 1) := by decide +kernel
theorem dX6_step_39 : decode cX6_step 39 = .ok (.i2l, 1) := by decide +kernel
theorem dX6_step_40 : decode cX6_step 40 = .ok (.lconst 1, 1) := by decide +kernel
theorem dX6_step_41 : decode cX6_step 41 = .ok (.ldc2_w 179, 3) := by decide +kernel
theorem dX6_step_44 : decode cX6_step 44 = .ok (.invokestatic 131, 3) := by decide +kernel
theorem dX6_step_47 : decode cX6_step 47 = .ok (.aload_n 0, 1) := by decide +kernel
theorem dX6_step_48 : decode cX6_step 48 = .ok (.getfield 19, 3) := by decide +kernel
theorem dX6_step_51 : decode cX6_step 51 = .ok (.aload_n 0, 1) := by decide +kernel
theorem dX6_step_52 : decode cX6_step 52 = .ok (.getfield 10, 3) := by decide +kernel
theorem dX6_step_55 : decode cX6_step 55 = .ok (.invokevirtual 78, 3) := by decide +kernel
theorem dX6_step_58 : decode cX6_step 58 = .ok (.iconst 0, 1) := by decide +kernel
theorem dX6_step_59 : decode cX6_step 59 = .ok (.istore 7, 2) := by decide +kernel
theorem dX6_step_61 : decode cX6_step 61 = .ok (.iload 7, 2) := by decide +kernel
theorem dX6_step_63 : decode cX6_step 63 = .ok (.iload_n 2, 1) := by decide +kernel
theorem dX6_step_64 : decode cX6_step 64 = .ok (.if_icmp .ge 28, 3) := by decide +kernel
theorem dX6_step_67 : decode cX6_step 67 = .ok (.aload_n 0, 1) := by decide +kernel
theorem dX6_step_68 : decode cX6_step 68 = .ok (.getfield 26, 3) := by decide +kernel
theorem dX6_step_71 : decode cX6_step 71 = .ok (.aload_n 3, 1) := by decide +kernel
theorem dX6_step_72 : decode cX6_step 72 = .ok (.aload 4, 2) := by decide +kernel
theorem dX6_step_74 : decode cX6_step 74 = .ok (.aload 5, 2) := by decide +kernel
theorem dX6_step_76 : decode cX6_step 76 = .ok (.aload 6, 2) := by decide +kernel
theorem dX6_step_78 : decode cX6_step 78 = .ok (.iload_n 1, 1) := by decide +kernel
theorem dX6_step_79 : decode cX6_step 79 = .ok (.i2l, 1) := by decide +kernel
theorem dX6_step_80 : decode cX6_step 80 = .ok (.invokevirtual 181, 3) := by decide +kernel
theorem dX6_step_83 : decode cX6_step 83 = .ok (.ifCond .eq 9, 3) := by decide +kernel
theorem dX6_step_86 : decode cX6_step 86 = .ok (.iinc 7 1, 3) := by decide +kernel
theorem dX6_step_89 : decode cX6_step 89 = .ok (.goto (-28), 3) := by decide +kernel
theorem dX6_step_92 : decode cX6_step 92 = .ok (.iload 7, 2) := by decide +kernel
theorem dX6_step_94 : decode cX6_step 94 = .ok (.ireturn, 1) := by decide +kernel
theorem dX6_sweep_0 : decode cX6_sweep 0 = .ok (.iload_n 1, 1) := by decide +kernel
theorem dX6_sweep_1 : decode cX6_sweep 1 = .ok (.invokestatic 95, 3) := by decide +kernel
theorem dX6_sweep_4 : decode cX6_sweep 4 = .ok (.aload_n 0, 1) := by decide +kernel
theorem dX6_sweep_5 : decode cX6_sweep 5 = .ok (.getfield 40, 3) := by decide +kernel
theorem dX6_sweep_8 : decode cX6_sweep 8 = .ok (.aload_n 0, 1) := by decide +kernel
theorem dX6_sweep_9 : decode cX6_sweep 9 = .ok (.iload_n 1, 1) := by decide +kernel
theorem dX6_sweep_10 : decode cX6_sweep 10 = .ok (.invokevirtual 98, 3) := by decide +kernel
theorem dX6_sweep_13 : decode cX6_sweep 13 = .ok (.invokevirtual 185, 3) := by decide +kernel
theorem dX6_sweep_16 : decode cX6_sweep 16 = .ok (.iload_n 2, 1) := by decide +kernel
theorem dX6_sweep_17 : decode cX6_sweep 17 = .ok (.i2l, 1) := by decide +kernel
theorem dX6_sweep_18 : decode cX6_sweep 18 = .ok (.lconst 0, 1) := by decide +kernel
theorem dX6_sweep_19 : decode cX6_sweep 19 = .ok (.ldc2_w 188, 3) := by decide +kernel
theorem dX6_sweep_22 : decode cX6_sweep 22 = .ok (.invokestatic 131, 3) := by decide +kernel
theorem dX6_sweep_25 : decode cX6_sweep 25 = .ok (.aload_n 0, 1) := by decide +kernel
theorem dX6_sweep_26 : decode cX6_sweep 26 = .ok (.getfield 40, 3) := by decide +kernel
theorem dX6_sweep_29 : decode cX6_sweep 29 = .ok (.iload_n 2, 1) := by decide +kernel
theorem dX6_sweep_30 : decode cX6_sweep 30 = .ok (.i2l, 1) := by decide +kernel
theorem dX6_sweep_31 : decode cX6_sweep 31 = .ok (.invokevirtual 190, 3) := by decide +kernel
theorem dX6_sweep_34 : decode cX6_sweep 34 = .ok (.istore_n 3, 1) := by decide +kernel
theorem dX6_sweep_35 : decode cX6_sweep 35 = .ok (.aload_n 0, 1) := by decide +kernel
theorem dX6_sweep_36 : decode cX6_sweep 36 = .ok (.iload_n 1, 1) := by decide +kernel
theorem dX6_sweep_37 : decode cX6_sweep 37 = .ok (.aload_n 0, 1) := by decide +kernel
theorem dX6_sweep_38 : decode cX6_sweep 38 = .ok (.getfield 40, 3) := by decide +kernel
theorem dX6_sweep_41 : decode cX6_sweep 41 = .ok (.invokevirtual 194, 3) := by decide +kernel
theorem dX6_sweep_44 : decode cX6_sweep 44 = .ok (.invokevirtual 165, 3) := by decide +kernel
theorem dX6_sweep_47 : decode cX6_sweep 47 = .ok (.pop, 1) := by decide +kernel
theorem dX6_sweep_48 : decode cX6_sweep 48 = .ok (.iload_n 3, 1) := by decide +kernel
theorem dX6_sweep_49 : decode cX6_sweep 49 = .ok (.ireturn, 1) := by decide +kernel
theorem dX6_wrap_0 : decode cX6_wrap 0 = .ok (.iload_n 1, 1) := by decide +kernel
theorem dX6_wrap_1 : decode cX6_wrap 1 = .ok (.invokestatic 95, 3) := by decide +kernel
theorem dX6_wrap_4 : decode cX6_wrap 4 = .ok (.aload_n 0, 1) := by decide +kernel
theorem dX6_wrap_5 : decode cX6_wrap 5 = .ok (.iload_n 1, 1) := by decide +kernel
theorem dX6_wrap_6 : decode cX6_wrap 6 = .ok (.invokevirtual 98, 3) := by decide +kernel
theorem dX6_wrap_9 : decode cX6_wrap 9 = .ok (.astore_n 3, 1) := by decide +kernel
theorem dX6_wrap_10 : decode cX6_wrap 10 = .ok (.iload_n 2, 1) := by decide +kernel
theorem dX6_wrap_11 : decode cX6_wrap 11 = .ok (.invokestatic 110, 3) := by decide +kernel
theorem dX6_wrap_14 : decode cX6_wrap 14 = .ok (.aload_n 3, 1) := by decide +kernel
theorem dX6_wrap_15 : decode cX6_wrap 15 = .ok (.invokevirtual 124, 3) := by decide +kernel
theorem dX6_wrap_18 : decode cX6_wrap 18 = .ok (.lstore 4, 2) := by decide +kernel
theorem dX6_wrap_20 : decode cX6_wrap 20 = .ok (.aload_n 3, 1) := by decide +kernel
theorem dX6_wrap_21 : decode cX6_wrap 21 = .ok (.invokevirtual 120, 3) := by decide +kernel
theorem dX6_wrap_24 : decode cX6_wrap 24 = .ok (.lload 4, 2) := by decide +kernel
theorem dX6_wrap_26 : decode cX6_wrap 26 = .ok (.ladd, 1) := by decide +kernel
theorem dX6_wrap_27 : decode cX6_wrap 27 = .ok (.ldc2_w 197, 3) := by decide +kernel
theorem dX6_wrap_30 : decode cX6_wrap 30 = .ok (.invokestatic 141, 3) := by decide +kernel
theorem dX6_wrap_33 : decode cX6_wrap 33 = .ok (.lstore 6, 2) := by decide +kernel
theorem dX6_wrap_35 : decode cX6_wrap 35 = .ok (.aload_n 0, 1) := by decide +kernel
theorem dX6_wrap_36 : decode cX6_wrap 36 = .ok (.getfield 40, 3) := by decide +kernel
theorem dX6_wrap_39 : decode cX6_wrap 39 = .ok (.lload 6, 2) := by decide +kernel
theorem dX6_wrap_41 : decode cX6_wrap 41 = .ok (.invokevirtual 199, 3) := by decide +kernel
theorem dX6_wrap_44 : decode cX6_wrap 44 = .ok (.aload_n 0, 1) := by decide +kernel
theorem dX6_wrap_45 : decode cX6_wrap 45 = .ok (.getfield 40, 3) := by decide +kernel
theorem dX6_wrap_48 : decode cX6_wrap 48 = .ok (.iload_n 2, 1) := by decide +kernel
theorem dX6_wrap_49 : decode cX6_wrap 49 = .ok (.ifCond .ne 7, 3) := by decide +kernel
theorem dX6_wrap_52 : decode cX6_wrap 52 = .ok (.iconst 4, 1) := by decide +kernel
theorem dX6_wrap_53 : decode cX6_wrap 53 = .ok (.goto 4, 3) := by decide +kernel
theorem dX6_wrap_56 : decode cX6_wrap 56 = .ok (.iconst 1, 1) := by decide +kernel
theorem dX6_wrap_57 : decode cX6_wrap 57 = .ok (.lload 4, 2) := by decide +kernel
theorem dX6_wrap_59 : decode cX6_wrap 59 = .ok (.lload 6, 2) := by decide +kernel
theorem dX6_wrap_61 : decode cX6_wrap 61 = .ok (.lsub, 1) := by decide +kernel
theorem dX6_wrap_62 : decode cX6_wrap 62 = .ok (.invokevirtual 203, 3) := by decide +kernel
theorem dX6_wrap_65 : decode cX6_wrap 65 = .ok (.aload_n 0, 1) := by decide +kernel
theorem dX6_wrap_66 : decode cX6_wrap 66 = .ok (.iload_n 1, 1) := by decide +kernel
theorem dX6_wrap_67 : decode cX6_wrap 67 = .ok (.aload_n 0, 1) := by decide +kernel
theorem dX6_wrap_68 : decode cX6_wrap 68 = .ok (.getfield 40, 3) := by decide +kernel
theorem dX6_wrap_71 : decode cX6_wrap 71 = .ok (.invokevirtual 194, 3) := by decide +kernel
theorem dX6_wrap_74 : decode cX6_wrap 74 = .ok (.invokevirtual 165, 3) := by decide +kernel
theorem dX6_wrap_77 : decode cX6_wrap 77 = .ok (.pop, 1) := by decide +kernel
theorem dX6_wrap_78 : decode cX6_wrap 78 = .ok (.lload 4, 2) := by decide +kernel
