theorem dX0_init_0 : decode cX0_init 0 = .ok (.aload_n 0, 1) := by decide +kernel
theorem dX0_init_1 : decode cX0_init 1 = .ok (.invokespecial 3, 3) := by decide +kernel
theorem dX0_init_4 : decode cX0_init 4 = .ok (.aload_n 0, 1) := by decide +kernel
theorem dX0_init_5 : decode cX0_init 5 = .ok (.iconst 4, 1) := by decide +kernel
theorem dX0_init_6 : decode cX0_init 6 = .ok (.newarray .int, 2) := by decide +kernel
theorem dX0_init_8 : decode cX0_init 8 = .ok (.putfield 9, 3) := by decide +kernel
theorem dX0_init_11 : decode cX0_init 11 = .ok (.aload_n 0, 1) := by decide +kernel
theorem dX0_init_12 : decode cX0_init 12 = .ok (.bipush 9, 2) := by decide +kernel
theorem dX0_init_14 : decode cX0_init 14 = .ok (.newarray .int, 2) := by decide +kernel
theorem dX0_init_16 : decode cX0_init 16 = .ok (.putfield 15, 3) := by decide +kernel
theorem dX0_init_19 : decode cX0_init 19 = .ok (.return_, 1) := by decide +kernel
theorem dX0_darn_0 : decode cX0_darn 0 = .ok (.aload_n 0, 1) := by decide +kernel
theorem dX0_darn_1 : decode cX0_darn 1 = .ok (.iload_n 1, 1) := by decide +kernel
theorem dX0_darn_2 : decode cX0_darn 2 = .ok (.putfield 18, 3) := by decide +kernel
theorem dX0_darn_5 : decode cX0_darn 5 = .ok (.aload_n 0, 1) := by decide +kernel
theorem dX0_darn_6 : decode cX0_darn 6 = .ok (.iload_n 2, 1) := by decide +kernel
theorem dX0_darn_7 : decode cX0_darn 7 = .ok (.invokestatic 22, 3) := by decide +kernel
theorem dX0_darn_10 : decode cX0_darn 10 = .ok (.putfield 26, 3) := by decide +kernel
theorem dX0_darn_13 : decode cX0_darn 13 = .ok (.aload_n 0, 1) := by decide +kernel
theorem dX0_darn_14 : decode cX0_darn 14 = .ok (.bipush (-6), 2) := by decide +kernel
theorem dX0_darn_16 : decode cX0_darn 16 = .ok (.putfield 29, 3) := by decide +kernel
theorem dX0_darn_19 : decode cX0_darn 19 = .ok (.aload_n 0, 1) := by decide +kernel
theorem dX0_darn_20 : decode cX0_darn 20 = .ok (.invokevirtual 32, 3) := by decide +kernel
theorem dX0_darn_23 : decode cX0_darn 23 = .ok (.istore_n 3, 1) := by decide +kernel
theorem dX0_darn_24 : decode cX0_darn 24 = .ok (.aload_n 0, 1) := by decide +kernel
theorem dX0_darn_25 : decode cX0_darn 25 = .ok (.iload_n 3, 1) := by decide +kernel
theorem dX0_darn_26 : decode cX0_darn 26 = .ok (.aload_n 0, 1) := by decide +kernel
theorem dX0_darn_27 : decode cX0_darn 27 = .ok (.iconst 0, 1) := by decide +kernel
theorem dX0_darn_28 : decode cX0_darn 28 = .ok (.invokevirtual 36, 3) := by decide +kernel
theorem dX0_darn_31 : decode cX0_darn 31 = .ok (.imul, 1) := by decide +kernel
theorem dX0_darn_32 : decode cX0_darn 32 = .ok (.putfield 39, 3) := by decide +kernel
theorem dX0_darn_35 : decode cX0_darn 35 = .ok (.return_, 1) := by decide +kernel
theorem dX0_partHoles_0 : decode cX0_partHoles 0 = .ok (.iconst 1, 1) := by decide +kernel
theorem dX0_partHoles_1 : decode cX0_partHoles 1 = .ok (.istore_n 1, 1) := by decide +kernel
theorem dX0_partHoles_2 : decode cX0_partHoles 2 = .ok (.iload_n 1, 1) := by decide +kernel
theorem dX0_partHoles_3 : decode cX0_partHoles 3 = .ok (.iconst 3, 1) := by decide +kernel
theorem dX0_partHoles_4 : decode cX0_partHoles 4 = .ok (.if_icmp .gt 16, 3) := by decide +kernel
theorem dX0_partHoles_7 : decode cX0_partHoles 7 = .ok (.aload_n 0, 1) := by decide +kernel
theorem dX0_partHoles_8 : decode cX0_partHoles 8 = .ok (.getfield 9, 3) := by decide +kernel
theorem dX0_partHoles_11 : decode cX0_partHoles 11 = .ok (.iload_n 1, 1) := by decide +kernel
theorem dX0_partHoles_12 : decode cX0_partHoles 12 = .ok (.iconst 0, 1) := by decide +kernel
theorem dX0_partHoles_13 : decode cX0_partHoles 13 = .ok (.iastore, 1) := by decide +kernel
theorem dX0_partHoles_14 : decode cX0_partHoles 14 = .ok (.iinc 1 1, 3) := by decide +kernel
theorem dX0_partHoles_17 : decode cX0_partHoles 17 = .ok (.goto (-15), 3) := by decide +kernel
theorem dX0_partHoles_20 : decode cX0_partHoles 20 = .ok (.aload_n 0, 1) := by decide +kernel
theorem dX0_partHoles_21 : decode cX0_partHoles 21 = .ok (.iconst 0, 1) := by decide +kernel
theorem dX0_partHoles_22 : decode cX0_partHoles 22 = .ok (.putfield 42, 3) := by decide +kernel
theorem dX0_partHoles_25 : decode cX0_partHoles 25 = .ok (.iconst 1, 1) := by decide +kernel
theorem dX0_partHoles_26 : decode cX0_partHoles 26 = .ok (.istore_n 1, 1) := by decide +kernel
theorem dX0_partHoles_27 : decode cX0_partHoles 27 = .ok (.iconst 0, 1) := by decide +kernel
theorem dX0_partHoles_28 : decode cX0_partHoles 28 = .ok (.istore_n 2, 1) := by decide +kernel
theorem dX0_partHoles_29 : decode cX0_partHoles 29 = .ok (.iload_n 2, 1) := by decide +kernel
theorem dX0_partHoles_30 : decode cX0_partHoles 30 = .ok (.bipush 25, 2) := by decide +kernel
theorem dX0_partHoles_32 : decode cX0_partHoles 32 = .ok (.if_icmp .ge 96, 3) := by decide +kernel
theorem dX0_partHoles_35 : decode cX0_partHoles 35 = .ok (.iconst 1, 1) := by decide +kernel
theorem dX0_partHoles_36 : decode cX0_partHoles 36 = .ok (.iload_n 2, 1) := by decide +kernel
theorem dX0_partHoles_37 : decode cX0_partHoles 37 = .ok (.ishl, 1) := by decide +kernel
theorem dX0_partHoles_38 : decode cX0_partHoles 38 = .ok (.istore_n 3, 1) := by decide +kernel
theorem dX0_partHoles_39 : decode cX0_partHoles 39 = .ok (.aload_n 0, 1) := by decide +kernel
theorem dX0_partHoles_40 : decode cX0_partHoles 40 = .ok (.getfield 18, 3) := by decide +kernel
theorem dX0_partHoles_43 : decode cX0_partHoles 43 = .ok (.iload_n 3, 1) := by decide +kernel
theorem dX0_partHoles_44 : decode cX0_partHoles 44 = .ok (.iand, 1) := by decide +kernel
theorem dX0_partHoles_45 : decode cX0_partHoles 45 = .ok (.ifCond .ne 6, 3) := by decide +kernel
theorem dX0_partHoles_48 : decode cX0_partHoles 48 = .ok (.goto 74, 3) := by decide +kernel
theorem dX0_partHoles_51 : decode cX0_partHoles 51 = .ok (.iload_n 3, 1) := by decide +kernel
theorem dX0_partHoles_52 : decode cX0_partHoles 52 = .ok (.invokestatic 22, 3) := by decide +kernel
theorem dX0_partHoles_55 : decode cX0_partHoles 55 = .ok (.aload_n 0, 1) := by decide +kernel
theorem dX0_partHoles_56 : decode cX0_partHoles 56 = .ok (.getfield 18, 3) := by decide +kernel
theorem dX0_partHoles_59 : decode cX0_partHoles 59 = .ok (.iand, 1) := by decide +kernel
theorem dX0_partHoles_60 : decode cX0_partHoles 60 = .ok (.ifCond .ne 33, 3) := by decide +kernel
theorem dX0_partHoles_63 : decode cX0_partHoles 63 = .ok (.aload_n 0, 1) := by decide +kernel
theorem dX0_partHoles_64 : decode cX0_partHoles 64 = .ok (.getfield 9, 3) := by decide +kernel
theorem dX0_partHoles_67 : decode cX0_partHoles 67 = .ok (.iconst 1, 1) := by decide +kernel
theorem dX0_partHoles_68 : decode cX0_partHoles 68 = .ok (.dup2, 1) := by decide +kernel
theorem dX0_partHoles_69 : decode cX0_partHoles 69 = .ok (.iaload, 1) := by decide +kernel
theorem dX0_partHoles_70 : decode cX0_partHoles 70 = .ok (.iload_n 3, 1) := by decide +kernel
theorem dX0_partHoles_71 : decode cX0_partHoles 71 = .ok (.ior, 1) := by decide +kernel
theorem dX0_partHoles_72 : decode cX0_partHoles 72 = .ok (.iastore, 1) := by decide +kernel
theorem dX0_partHoles_73 : decode cX0_partHoles 73 = .ok (.iload_n 1, 1) := by decide +kernel
theorem dX0_partHoles_74 : decode cX0_partHoles 74 = .ok (.aload_n 0, 1) := by decide +kernel
theorem dX0_partHoles_75 : decode cX0_partHoles 75 = .ok (.getfield 26, 3) := by decide +kernel
theorem dX0_partHoles_78 : decode cX0_partHoles 78 = .ok (.iload_n 3, 1) := by decide +kernel
theorem dX0_partHoles_79 : decode cX0_partHoles 79 = .ok (.iand, 1) := by decide +kernel
theorem dX0_partHoles_80 : decode cX0_partHoles 80 = .ok (.ifCond .ne 7, 3) := by decide +kernel
theorem dX0_partHoles_83 : decode cX0_partHoles 83 = .ok (.iconst 3, 1) := by decide +kernel
theorem dX0_partHoles_84 : decode cX0_partHoles 84 = .ok (.goto 4, 3) := by decide +kernel
theorem dX0_partHoles_87 : decode cX0_partHoles 87 = .ok (.iconst 2, 1) := by decide +kernel
theorem dX0_partHoles_88 : decode cX0_partHoles 88 = .ok (.imul, 1) := by decide +kernel
theorem dX0_partHoles_89 : decode cX0_partHoles 89 = .ok (.istore_n 1, 1) := by decide +kernel
theorem dX0_partHoles_90 : decode cX0_partHoles 90 = .ok (.goto 32, 3) := by decide +kernel
theorem dX0_partHoles_93 : decode cX0_partHoles 93 = .ok (.aload_n 0, 1) := by decide +kernel
theorem dX0_partHoles_94 : decode cX0_partHoles 94 = .ok (.getfield 42, 3) := by decide +kernel
theorem dX0_partHoles_97 : decode cX0_partHoles 97 = .ok (.bipush 9, 2) := by decide +kernel
theorem dX0_partHoles_99 : decode cX0_partHoles 99 = .ok (.if_icmp .ge 23, 3) := by decide +kernel
theorem dX0_partHoles_102 : decode cX0_partHoles 102 = .ok (.aload_n 0, 1) := by decide +kernel
theorem dX0_partHoles_103 : decode cX0_partHoles 103 = .ok (.getfield 15, 3) := by decide +kernel
theorem dX0_partHoles_106 : decode cX0_partHoles 106 = .ok (.aload_n 0, 1) := by decide +kernel
theorem dX0_partHoles_107 : decode cX0_partHoles 107 = .ok (.getfield 42, 3) := by decide +kernel
theorem dX0_partHoles_110 : decode cX0_partHoles 110 = .ok (.iload_n 3, 1) := by decide +kernel
theorem dX0_partHoles_111 : decode cX0_partHoles 111 = .ok (.iastore, 1) := by decide +kernel
theorem dX0_partHoles_112 : decode cX0_partHoles 112 = .ok (.aload_n 0, 1) := by decide +kernel
theorem dX0_partHoles_113 : decode cX0_partHoles 113 = .ok (.dup, 1) := by decide +kernel
theorem dX0_partHoles_114 : decode cX0_partHoles 114 = .ok (.getfield 42, 3) := by decide +kernel
theorem dX0_partHoles_117 : decode cX0_partHoles 117 = .ok (.iconst 1, 1) := by decide +kernel
theorem dX0_partHoles_118 : decode cX0_partHoles 118 = .ok (.iadd, 1) := by decide +kernel
theorem dX0_partHoles_119 : decode cX0_partHoles 119 = .ok (.putfield 42, 3) := by decide +kernel
theorem dX0_partHoles_122 : decode cX0_partHoles 122 = .ok (.iinc 2 1, 3) := by decide +kernel
theorem dX0_partHoles_125 : decode cX0_partHoles 125 = .ok (.goto (-96), 3) := by decide +kernel
theorem dX0_partHoles_128 : decode cX0_partHoles 128 = .ok (.iload_n 1, 1) := by decide +kernel
theorem dX0_partHoles_129 : decode cX0_partHoles 129 = .ok (.ireturn, 1) := by decide +kernel
theorem dX0_waysFrom_0 : decode cX0_waysFrom 0 = .ok (.iload_n 1, 1) := by decide +kernel
theorem dX0_waysFrom_1 : decode cX0_waysFrom 1 = .ok (.ifCond .lt 11, 3) := by decide +kernel
theorem dX0_waysFrom_4 : decode cX0_waysFrom 4 = .ok (.iload_n 1, 1) := by decide +kernel
theorem dX0_waysFrom_5 : decode cX0_waysFrom 5 = .ok (.aload_n 0, 1) := by decide +kernel
theorem dX0_waysFrom_6 : decode cX0_waysFrom 6 = .ok (.getfield 42, 3) := by decide +kernel
theorem dX0_waysFrom_9 : decode cX0_waysFrom 9 = .ok (.if_icmp .lt 29, 3) := by decide +kernel
theorem dX0_waysFrom_12 : decode cX0_waysFrom 12 = .ok (.aload_n 0, 1) := by decide +kernel
theorem dX0_waysFrom_13 : decode cX0_waysFrom 13 = .ok (.aload_n 0, 1) := by decide +kernel
theorem dX0_waysFrom_14 : decode cX0_waysFrom 14 = .ok (.getfield 29, 3) := by decide +kernel
theorem dX0_waysFrom_17 : decode cX0_waysFrom 17 = .ok (.bipush (-6), 2) := by decide +kernel
theorem dX0_waysFrom_19 : decode cX0_waysFrom 19 = .ok (.if_icmp .ne 10, 3) := by decide +kernel
theorem dX0_waysFrom_22 : decode cX0_waysFrom 22 = .ok (.aload_n 0, 1) := by decide +kernel
theorem dX0_waysFrom_23 : decode cX0_waysFrom 23 = .ok (.invokevirtual 45, 3) := by decide +kernel
theorem dX0_waysFrom_26 : decode cX0_waysFrom 26 = .ok (.goto 7, 3) := by decide +kernel
theorem dX0_waysFrom_29 : decode cX0_waysFrom 29 = .ok (.aload_n 0, 1) := by decide +kernel
theorem dX0_waysFrom_30 : decode cX0_waysFrom 30 = .ok (.getfield 29, 3) := by decide +kernel
theorem dX0_waysFrom_33 : decode cX0_waysFrom 33 = .ok (.putfield 29, 3) := by decide +kernel
theorem dX0_waysFrom_36 : decode cX0_waysFrom 36 = .ok (.iconst 1, 1) := by decide +kernel
theorem dX0_waysFrom_37 : decode cX0_waysFrom 37 = .ok (.ireturn, 1) := by decide +kernel
theorem dX0_waysFrom_38 : decode cX0_waysFrom 38 = .ok (.aload_n 0, 1) := by decide +kernel
theorem dX0_waysFrom_39 : decode cX0_waysFrom 39 = .ok (.getfield 15, 3) := by decide +kernel
theorem dX0_waysFrom_42 : decode cX0_waysFrom 42 = .ok (.iload_n 1, 1) := by decide +kernel
theorem dX0_waysFrom_43 : decode cX0_waysFrom 43 = .ok (.iaload, 1) := by decide +kernel
theorem dX0_waysFrom_44 : decode cX0_waysFrom 44 = .ok (.istore_n 2, 1) := by decide +kernel
theorem dX0_waysFrom_45 : decode cX0_waysFrom 45 = .ok (.iload_n 2, 1) := by decide +kernel
theorem dX0_waysFrom_46 : decode cX0_waysFrom 46 = .ok (.invokestatic 22, 3) := by decide +kernel
theorem dX0_waysFrom_49 : decode cX0_waysFrom 49 = .ok (.istore_n 3, 1) := by decide +kernel
theorem dX0_waysFrom_50 : decode cX0_waysFrom 50 = .ok (.iconst 0, 1) := by decide +kernel
theorem dX0_waysFrom_51 : decode cX0_waysFrom 51 = .ok (.istore 4, 2) := by decide +kernel
theorem dX0_waysFrom_53 : decode cX0_waysFrom 53 = .ok (.iconst 1, 1) := by decide +kernel
theorem dX0_waysFrom_54 : decode cX0_waysFrom 54 = .ok (.istore 5, 2) := by decide +kernel
theorem dX0_waysFrom_56 : decode cX0_waysFrom 56 = .ok (.iload 5, 2) := by decide +kernel
theorem dX0_waysFrom_58 : decode cX0_waysFrom 58 = .ok (.iconst 3, 1) := by decide +kernel
theorem dX0_waysFrom_59 : decode cX0_waysFrom 59 = .ok (.if_icmp .gt 84, 3) := by decide +kernel
theorem dX0_waysFrom_62 : decode cX0_waysFrom 62 = .ok (.iload 5, 2) := by decide +kernel
theorem dX0_waysFrom_64 : decode cX0_waysFrom 64 = .ok (.iconst 2, 1) := by decide +kernel
theorem dX0_waysFrom_65 : decode cX0_waysFrom 65 = .ok (.if_icmp .ne 16, 3) := by decide +kernel
theorem dX0_waysFrom_68 : decode cX0_waysFrom 68 = .ok (.aload_n 0, 1) := by decide +kernel
theorem dX0_waysFrom_69 : decode cX0_waysFrom 69 = .ok (.getfield 26, 3) := by decide +kernel
theorem dX0_waysFrom_72 : decode cX0_waysFrom 72 = .ok (.iload_n 2, 1) := by decide +kernel
theorem dX0_waysFrom_73 : decode cX0_waysFrom 73 = .ok (.iand, 1) := by decide +kernel
theorem dX0_waysFrom_74 : decode cX0_waysFrom 74 = .ok (.ifCond .eq 7, 3) := by decide +kernel
theorem dX0_waysFrom_77 : decode cX0_waysFrom 77 = .ok (.iconst 1, 1) := by decide +kernel
theorem dX0_waysFrom_78 : decode cX0_waysFrom 78 = .ok (.goto 4, 3) := by decide +kernel
theorem dX0_waysFrom_81 : decode cX0_waysFrom 81 = .ok (.iconst 0, 1) := by decide +kernel
theorem dX0_waysFrom_82 : decode cX0_waysFrom 82 = .ok (.istore 6, 2) := by decide +kernel
theorem dX0_waysFrom_84 : decode cX0_waysFrom 84 = .ok (.iload 6, 2) := by decide +kernel
theorem dX0_waysFrom_86 : decode cX0_waysFrom 86 = .ok (.ifCond .ne 51, 3) := by decide +kernel
theorem dX0_waysFrom_89 : decode cX0_waysFrom 89 = .ok (.aload_n 0, 1) := by decide +kernel
theorem dX0_waysFrom_90 : decode cX0_waysFrom 90 = .ok (.getfield 9, 3) := by decide +kernel
theorem dX0_waysFrom_93 : decode cX0_waysFrom 93 = .ok (.iload 5, 2) := by decide +kernel
theorem dX0_waysFrom_95 : decode cX0_waysFrom 95 = .ok (.iaload, 1) := by decide +kernel
theorem dX0_waysFrom_96 : decode cX0_waysFrom 96 = .ok (.iload_n 3, 1) := by decide +kernel
theorem dX0_waysFrom_97 : decode cX0_waysFrom 97 = .ok (.iand, 1) := by decide +kernel
theorem dX0_waysFrom_98 : decode cX0_waysFrom 98 = .ok (.ifCond .ne 39, 3) := by decide +kernel
theorem dX0_waysFrom_101 : decode cX0_waysFrom 101 = .ok (.aload_n 0, 1) := by decide +kernel
theorem dX0_waysFrom_102 : decode cX0_waysFrom 102 = .ok (.getfield 9, 3) := by decide +kernel
theorem dX0_waysFrom_105 : decode cX0_waysFrom 105 = .ok (.iload 5, 2) := by decide +kernel
theorem dX0_waysFrom_107 : decode cX0_waysFrom 107 = .ok (.dup2, 1) := by decide +kernel
theorem dX0_waysFrom_108 : decode cX0_waysFrom 108 = .ok (.iaload, 1) := by decide +kernel
theorem dX0_waysFrom_109 : decode cX0_waysFrom 109 = .ok (.iload_n 2, 1) := by decide +kernel
theorem dX0_waysFrom_110 : decode cX0_waysFrom 110 = .ok (.ior, 1) := by decide +kernel
theorem dX0_waysFrom_111 : decode cX0_waysFrom 111 = .ok (.iastore, 1) := by decide +kernel
theorem dX0_waysFrom_112 : decode cX0_waysFrom 112 = .ok (.iload 4, 2) := by decide +kernel
theorem dX0_waysFrom_114 : decode cX0_waysFrom 114 = .ok (.aload_n 0, 1) := by decide +kernel
theorem dX0_waysFrom_115 : decode cX0_waysFrom 115 = .ok (.iload_n 1, 1) := by decide +kernel
theorem dX0_waysFrom_116 : decode cX0_waysFrom 116 = .ok (.iconst 1, 1) := by decide +kernel
theorem dX0_waysFrom_117 : decode cX0_waysFrom 117 = .ok (.iadd, 1) := by decide +kernel
theorem dX0_waysFrom_118 : decode cX0_waysFrom 118 = .ok (.invokevirtual 36, 3) := by decide +kernel
theorem dX0_waysFrom_121 : decode cX0_waysFrom 121 = .ok (.iadd, 1) := by decide +kernel
theorem dX0_waysFrom_122 : decode cX0_waysFrom 122 = .ok (.istore 4, 2) := by decide +kernel
theorem dX0_waysFrom_124 : decode cX0_waysFrom 124 = .ok (.aload_n 0, 1) := by decide +kernel
theorem dX0_waysFrom_125 : decode cX0_waysFrom 125 = .ok (.getfield 9, 3) := by decide +kernel
theorem dX0_waysFrom_128 : decode cX0_waysFrom 128 = .ok (.iload 5, 2) := by decide +kernel
theorem dX0_waysFrom_130 : decode cX0_waysFrom 130 = .ok (.dup2, 1) := by decide +kernel
theorem dX0_waysFrom_131 : decode cX0_waysFrom 131 = .ok (.iaload, 1) := by decide +kernel
theorem dX0_waysFrom_132 : decode cX0_waysFrom 132 = .ok (.iload_n 2, 1) := by decide +kernel
theorem dX0_waysFrom_133 : decode cX0_waysFrom 133 = .ok (.iconst (-1), 1) := by decide +kernel
theorem dX0_waysFrom_134 : decode cX0_waysFrom 134 = .ok (.ixor, 1) := by decide +kernel
theorem dX0_waysFrom_135 : decode cX0_waysFrom 135 = .ok (.iand, 1) := by decide +kernel
theorem dX0_waysFrom_136 : decode cX0_waysFrom 136 = .ok (.iastore, 1) := by decide +kernel
theorem dX0_waysFrom_137 : decode cX0_waysFrom 137 = .ok (.iinc 5 1, 3) := by decide +kernel
theorem dX0_waysFrom_140 : decode cX0_waysFrom 140 = .ok (.goto (-84), 3) := by decide +kernel
theorem dX0_waysFrom_143 : decode cX0_waysFrom 143 = .ok (.iload 4, 2) := by decide +kernel
theorem dX0_waysFrom_145 : decode cX0_waysFrom 145 = .ok (.ireturn, 1) := by decide +kernel
theorem dX0_digits_0 : decode cX0_digits 0 = .ok (.iconst 0, 1) := by decide +kernel
theorem dX0_digits_1 : decode cX0_digits 1 = .ok (.istore_n 1, 1) := by decide +kernel
theorem dX0_digits_2 : decode cX0_digits 2 = .ok (.iconst 0, 1) := by decide +kernel
theorem dX0_digits_3 : decode cX0_digits 3 = .ok (.istore_n 2, 1) := by decide +kernel
theorem dX0_digits_4 : decode cX0_digits 4 = .ok (.iload_n 2, 1) := by decide +kernel
theorem dX0_digits_5 : decode cX0_digits 5 = .ok (.bipush 25, 2) := by decide +kernel
theorem dX0_digits_7 : decode cX0_digits 7 = .ok (.if_icmp .ge 33, 3) := by decide +kernel
theorem dX0_digits_10 : decode cX0_digits 10 = .ok (.iconst 1, 1) := by decide +kernel
theorem dX0_digits_11 : decode cX0_digits 11 = .ok (.iload_n 2, 1) := by decide +kernel
theorem dX0_digits_12 : decode cX0_digits 12 = .ok (.ishl, 1) := by decide +kernel
theorem dX0_digits_13 : decode cX0_digits 13 = .ok (.istore_n 3, 1) := by decide +kernel
theorem dX0_digits_14 : decode cX0_digits 14 = .ok (.aload_n 0, 1) := by decide +kernel
theorem dX0_digits_15 : decode cX0_digits 15 = .ok (.getfield 18, 3) := by decide +kernel
theorem dX0_digits_18 : decode cX0_digits 18 = .ok (.iload_n 3, 1) := by decide +kernel
theorem dX0_digits_19 : decode cX0_digits 19 = .ok (.iand, 1) := by decide +kernel
theorem dX0_digits_20 : decode cX0_digits 20 = .ok (.ifCond .eq 14, 3) := by decide +kernel
theorem dX0_digits_23 : decode cX0_digits 23 = .ok (.bipush 10, 2) := by decide +kernel
theorem dX0_digits_25 : decode cX0_digits 25 = .ok (.iload_n 1, 1) := by decide +kernel
theorem dX0_digits_26 : decode cX0_digits 26 = .ok (.imul, 1) := by decide +kernel
theorem dX0_digits_27 : decode cX0_digits 27 = .ok (.aload_n 0, 1) := by decide +kernel
theorem dX0_digits_28 : decode cX0_digits 28 = .ok (.iload_n 3, 1) := by decide +kernel
theorem dX0_digits_29 : decode cX0_digits 29 = .ok (.invokevirtual 48, 3) := by decide +kernel
theorem dX0_digits_32 : decode cX0_digits 32 = .ok (.iadd, 1) := by decide +kernel
theorem dX0_digits_33 : decode cX0_digits 33 = .ok (.istore_n 1, 1) := by decide +kernel
theorem dX0_digits_34 : decode cX0_digits 34 = .ok (.iinc 2 1, 3) := by decide +kernel
theorem dX0_digits_37 : decode cX0_digits 37 = .ok (.goto (-33), 3) := by decide +kernel
theorem dX0_digits_40 : decode cX0_digits 40 = .ok (.iload_n 1, 1) := by decide +kernel
theorem dX0_digits_41 : decode cX0_digits 41 = .ok (.ireturn, 1) := by decide +kernel
theorem dX0_threadOf_0 : decode cX0_threadOf 0 = .ok (.aload_n 0, 1) := by decide +kernel
theorem dX0_threadOf_1 : decode cX0_threadOf 1 = .ok (.getfield 9, 3) := by decide +kernel
theorem dX0_threadOf_4 : decode cX0_threadOf 4 = .ok (.iconst 1, 1) := by decide +kernel
theorem dX0_threadOf_5 : decode cX0_threadOf 5 = .ok (.iaload, 1) := by decide +kernel
theorem dX0_threadOf_6 : decode cX0_threadOf 6 = .ok (.iload_n 1, 1) := by decide +kernel
theorem dX0_threadOf_7 : decode cX0_threadOf 7 = .ok (.iand, 1) := by decide +kernel
theorem dX0_threadOf_8 : decode cX0_threadOf 8 = .ok (.ifCond .eq 5, 3) := by decide +kernel
theorem dX0_threadOf_11 : decode cX0_threadOf 11 = .ok (.iconst 1, 1) := by decide +kernel
theorem dX0_threadOf_12 : decode cX0_threadOf 12 = .ok (.ireturn, 1) := by decide +kernel
theorem dX0_threadOf_13 : decode cX0_threadOf 13 = .ok (.aload_n 0, 1) := by decide +kernel
theorem dX0_threadOf_14 : decode cX0_threadOf 14 = .ok (.getfield 9, 3) := by decide +kernel
theorem dX0_threadOf_17 : decode cX0_threadOf 17 = .ok (.iconst 2, 1) := by decide +kernel
theorem dX0_threadOf_18 : decode cX0_threadOf 18 = .ok (.iaload, 1) := by decide +kernel
theorem dX0_threadOf_19 : decode cX0_threadOf 19 = .ok (.iload_n 1, 1) := by decide +kernel
theorem dX0_threadOf_20 : decode cX0_threadOf 20 = .ok (.iand, 1) := by decide +kernel
theorem dX0_threadOf_21 : decode cX0_threadOf 21 = .ok (.ifCond .eq 7, 3) := by decide +kernel
theorem dX0_threadOf_24 : decode cX0_threadOf 24 = .ok (.iconst 2, 1) := by decide +kernel
theorem dX0_threadOf_25 : decode cX0_threadOf 25 = .ok (.goto 4, 3) := by decide +kernel
theorem dX0_threadOf_28 : decode cX0_threadOf 28 = .ok (.iconst 3, 1) := by decide +kernel
theorem dX0_threadOf_29 : decode cX0_threadOf 29 = .ok (.ireturn, 1) := by decide +kernel
theorem dX1_init_0 : decode cX1_init 0 = .ok (.aload_n 0, 1) := by decide +kernel
theorem dX1_init_1 : decode cX1_init 1 = .ok (.invokespecial 3, 3) := by decide +kernel
theorem dX1_init_4 : decode cX1_init 4 = .ok (.aload_n 0, 1) := by decide +kernel
theorem dX1_init_5 : decode cX1_init 5 = .ok (.bipush 25, 2) := by decide +kernel
theorem dX1_init_7 : decode cX1_init 7 = .ok (.newarray .int, 2) := by decide +kernel
theorem dX1_init_9 : decode cX1_init 9 = .ok (.putfield 9, 3) := by decide +kernel
theorem dX1_init_12 : decode cX1_init 12 = .ok (.aload_n 0, 1) := by decide +kernel
theorem dX1_init_13 : decode cX1_init 13 = .ok (.bipush 25, 2) := by decide +kernel
theorem dX1_init_15 : decode cX1_init 15 = .ok (.newarray .int, 2) := by decide +kernel
theorem dX1_init_17 : decode cX1_init 17 = .ok (.putfield 15, 3) := by decide +kernel
theorem dX1_init_20 : decode cX1_init 20 = .ok (.aload_n 0, 1) := by decide +kernel
theorem dX1_init_21 : decode cX1_init 21 = .ok (.iconst 4, 1) := by decide +kernel
theorem dX1_init_22 : decode cX1_init 22 = .ok (.newarray .boolean, 2) := by decide +kernel
theorem dX1_init_24 : decode cX1_init 24 = .ok (.putfield 18, 3) := by decide +kernel
theorem dX1_init_27 : decode cX1_init 27 = .ok (.aload_n 0, 1) := by decide +kernel
theorem dX1_init_28 : decode cX1_init 28 = .ok (.iconst 4, 1) := by decide +kernel
theorem dX1_init_29 : decode cX1_init 29 = .ok (.newarray .int, 2) := by decide +kernel
theorem dX1_init_31 : decode cX1_init 31 = .ok (.putfield 22, 3) := by decide +kernel
theorem dX1_init_34 : decode cX1_init 34 = .ok (.aload_n 0, 1) := by decide +kernel
theorem dX1_init_35 : decode cX1_init 35 = .ok (.iconst 4, 1) := by decide +kernel
theorem dX1_init_36 : decode cX1_init 36 = .ok (.newarray .int, 2) := by decide +kernel
theorem dX1_init_38 : decode cX1_init 38 = .ok (.putfield 25, 3) := by decide +kernel
theorem dX1_init_41 : decode cX1_init 41 = .ok (.aload_n 0, 1) := by decide +kernel
theorem dX1_init_42 : decode cX1_init 42 = .ok (.iconst 4, 1) := by decide +kernel
theorem dX1_init_43 : decode cX1_init 43 = .ok (.newarray .int, 2) := by decide +kernel
theorem dX1_init_45 : decode cX1_init 45 = .ok (.putfield 28, 3) := by decide +kernel
theorem dX1_init_48 : decode cX1_init 48 = .ok (.aload_n 0, 1) := by decide +kernel
theorem dX1_init_49 : decode cX1_init 49 = .ok (.bipush 8, 2) := by decide +kernel
theorem dX1_init_51 : decode cX1_init 51 = .ok (.newarray .int, 2) := by decide +kernel
theorem dX1_init_53 : decode cX1_init 53 = .ok (.putfield 31, 3) := by decide +kernel
theorem dX1_init_56 : decode cX1_init 56 = .ok (.aload_n 0, 1) := by decide +kernel
theorem dX1_init_57 : decode cX1_init 57 = .ok (.bipush 8, 2) := by decide +kernel
theorem dX1_init_59 : decode cX1_init 59 = .ok (.newarray .int, 2) := by decide +kernel
theorem dX1_init_61 : decode cX1_init 61 = .ok (.putfield 34, 3) := by decide +kernel
theorem dX1_init_64 : decode cX1_init 64 = .ok (.iconst 0, 1) := by decide +kernel
theorem dX1_init_65 : decode cX1_init 65 = .ok (.istore_n 1, 1) := by decide +kernel
theorem dX1_init_66 : decode cX1_init 66 = .ok (.iload_n 1, 1) := by decide +kernel
theorem dX1_init_67 : decode cX1_init 67 = .ok (.bipush 25, 2) := by decide +kernel
theorem dX1_init_69 : decode cX1_init 69 = .ok (.if_icmp .ge 16, 3) := by decide +kernel
theorem dX1_init_72 : decode cX1_init 72 = .ok (.aload_n 0, 1) := by decide +kernel
theorem dX1_init_73 : decode cX1_init 73 = .ok (.getfield 9, 3) := by decide +kernel
theorem dX1_init_76 : decode cX1_init 76 = .ok (.iload_n 1, 1) := by decide +kernel
theorem dX1_init_77 : decode cX1_init 77 = .ok (.iconst 1, 1) := by decide +kernel
theorem dX1_init_78 : decode cX1_init 78 = .ok (.iastore, 1) := by decide +kernel
theorem dX1_init_79 : decode cX1_init 79 = .ok (.iinc 1 1, 3) := by decide +kernel
theorem dX1_init_82 : decode cX1_init 82 = .ok (.goto (-16), 3) := by decide +kernel
theorem dX1_init_85 : decode cX1_init 85 = .ok (.iconst 1, 1) := by decide +kernel
theorem dX1_init_86 : decode cX1_init 86 = .ok (.istore_n 1, 1) := by decide +kernel
theorem dX1_init_87 : decode cX1_init 87 = .ok (.iload_n 1, 1) := by decide +kernel
theorem dX1_init_88 : decode cX1_init 88 = .ok (.iconst 3, 1) := by decide +kernel
theorem dX1_init_89 : decode cX1_init 89 = .ok (.if_icmp .gt 17, 3) := by decide +kernel
theorem dX1_init_92 : decode cX1_init 92 = .ok (.aload_n 0, 1) := by decide +kernel
theorem dX1_init_93 : decode cX1_init 93 = .ok (.getfield 28, 3) := by decide +kernel
theorem dX1_init_96 : decode cX1_init 96 = .ok (.iload_n 1, 1) := by decide +kernel
theorem dX1_init_97 : decode cX1_init 97 = .ok (.bipush 9, 2) := by decide +kernel
theorem dX1_init_99 : decode cX1_init 99 = .ok (.iastore, 1) := by decide +kernel
theorem dX1_init_100 : decode cX1_init 100 = .ok (.iinc 1 1, 3) := by decide +kernel
theorem dX1_init_103 : decode cX1_init 103 = .ok (.goto (-16), 3) := by decide +kernel
theorem dX1_init_106 : decode cX1_init 106 = .ok (.aload_n 0, 1) := by decide +kernel
theorem dX1_init_107 : decode cX1_init 107 = .ok (.bipush (-6), 2) := by decide +kernel
theorem dX1_init_109 : decode cX1_init 109 = .ok (.putfield 37, 3) := by decide +kernel
theorem dX1_init_112 : decode cX1_init 112 = .ok (.return_, 1) := by decide +kernel
theorem dX1_become_0 : decode cX1_become 0 = .ok (.iconst 0, 1) := by decide +kernel
theorem dX1_become_1 : decode cX1_become 1 = .ok (.istore_n 2, 1) := by decide +kernel
theorem dX1_become_2 : decode cX1_become 2 = .ok (.iload_n 2, 1) := by decide +kernel
theorem dX1_become_3 : decode cX1_become 3 = .ok (.bipush 25, 2) := by decide +kernel
theorem dX1_become_5 : decode cX1_become 5 = .ok (.if_icmp .ge 33, 3) := by decide +kernel
theorem dX1_become_8 : decode cX1_become 8 = .ok (.aload_n 0, 1) := by decide +kernel
theorem dX1_become_9 : decode cX1_become 9 = .ok (.getfield 9, 3) := by decide +kernel
theorem dX1_become_12 : decode cX1_become 12 = .ok (.iload_n 2, 1) := by decide +kernel
theorem dX1_become_13 : decode cX1_become 13 = .ok (.aload_n 1, 1) := by decide +kernel
theorem dX1_become_14 : decode cX1_become 14 = .ok (.getfield 9, 3) := by decide +kernel
theorem dX1_become_17 : decode cX1_become 17 = .ok (.iload_n 2, 1) := by decide +kernel
theorem dX1_become_18 : decode cX1_become 18 = .ok (.iaload, 1) := by decide +kernel
theorem dX1_become_19 : decode cX1_become 19 = .ok (.iastore, 1) := by decide +kernel
theorem dX1_become_20 : decode cX1_become 20 = .ok (.aload_n 0, 1) := by decide +kernel
theorem dX1_become_21 : decode cX1_become 21 = .ok (.getfield 15, 3) := by decide +kernel
theorem dX1_become_24 : decode cX1_become 24 = .ok (.iload_n 2, 1) := by decide +kernel
theorem dX1_become_25 : decode cX1_become 25 = .ok (.aload_n 1, 1) := by decide +kernel
theorem dX1_become_26 : decode cX1_become 26 = .ok (.getfield 15, 3) := by decide +kernel
theorem dX1_become_29 : decode cX1_become 29 = .ok (.iload_n 2, 1) := by decide +kernel
theorem dX1_become_30 : decode cX1_become 30 = .ok (.iaload, 1) := by decide +kernel
theorem dX1_become_31 : decode cX1_become 31 = .ok (.iastore, 1) := by decide +kernel
theorem dX1_become_32 : decode cX1_become 32 = .ok (.iinc 2 1, 3) := by decide +kernel
theorem dX1_become_35 : decode cX1_become 35 = .ok (.goto (-33), 3) := by decide +kernel
theorem dX1_become_38 : decode cX1_become 38 = .ok (.iconst 0, 1) := by decide +kernel
theorem dX1_become_39 : decode cX1_become 39 = .ok (.istore_n 2, 1) := by decide +kernel
theorem dX1_become_40 : decode cX1_become 40 = .ok (.iload_n 2, 1) := by decide +kernel
theorem dX1_become_41 : decode cX1_become 41 = .ok (.iconst 4, 1) := by decide +kernel
theorem dX1_become_42 : decode cX1_become 42 = .ok (.if_icmp .ge 45, 3) := by decide +kernel
theorem dX1_become_45 : decode cX1_become 45 = .ok (.aload_n 0, 1) := by decide +kernel
theorem dX1_become_46 : decode cX1_become 46 = .ok (.getfield 18, 3) := by decide +kernel
theorem dX1_become_49 : decode cX1_become 49 = .ok (.iload_n 2, 1) := by decide +kernel
theorem dX1_become_50 : decode cX1_become 50 = .ok (.aload_n 1, 1) := by decide +kernel
theorem dX1_become_51 : decode cX1_become 51 = .ok (.getfield 18, 3) := by decide +kernel
theorem dX1_become_54 : decode cX1_become 54 = .ok (.iload_n 2, 1) := by decide +kernel
theorem dX1_become_55 : decode cX1_become 55 = .ok (.baload, 1) := by decide +kernel
theorem dX1_become_56 : decode cX1_become 56 = .ok (.bastore, 1) := by decide +kernel
theorem dX1_become_57 : decode cX1_become 57 = .ok (.aload_n 0, 1) := by decide +kernel
theorem dX1_become_58 : decode cX1_become 58 = .ok (.getfield 22, 3) := by decide +kernel
theorem dX1_become_61 : decode cX1_become 61 = .ok (.iload_n 2, 1) := by decide +kernel
theorem dX1_become_62 : decode cX1_become 62 = .ok (.aload_n 1, 1) := by decide +kernel
theorem dX1_become_63 : decode cX1_become 63 = .ok (.getfield 22, 3) := by decide +kernel
theorem dX1_become_66 : decode cX1_become 66 = .ok (.iload_n 2, 1) := by decide +kernel
theorem dX1_become_67 : decode cX1_become 67 = .ok (.iaload, 1) := by decide +kernel
theorem dX1_become_68 : decode cX1_become 68 = .ok (.iastore, 1) := by decide +kernel
theorem dX1_become_69 : decode cX1_become 69 = .ok (.aload_n 0, 1) := by decide +kernel
theorem dX1_become_70 : decode cX1_become 70 = .ok (.getfield 25, 3) := by decide +kernel
theorem dX1_become_73 : decode cX1_become 73 = .ok (.iload_n 2, 1) := by decide +kernel
theorem dX1_become_74 : decode cX1_become 74 = .ok (.aload_n 1, 1) := by decide +kernel
theorem dX1_become_75 : decode cX1_become 75 = .ok (.getfield 25, 3) := by decide +kernel
theorem dX1_become_78 : decode cX1_become 78 = .ok (.iload_n 2, 1) := by decide +kernel
theorem dX1_become_79 : decode cX1_become 79 = .ok (.iaload, 1) := by decide +kernel
theorem dX1_become_80 : decode cX1_become 80 = .ok (.iastore, 1) := by decide +kernel
theorem dX1_become_81 : decode cX1_become 81 = .ok (.iinc 2 1, 3) := by decide +kernel
theorem dX1_become_84 : decode cX1_become 84 = .ok (.goto (-44), 3) := by decide +kernel
theorem dX1_become_87 : decode cX1_become 87 = .ok (.iconst 1, 1) := by decide +kernel
theorem dX1_become_88 : decode cX1_become 88 = .ok (.istore_n 2, 1) := by decide +kernel
theorem dX1_become_89 : decode cX1_become 89 = .ok (.iload_n 2, 1) := by decide +kernel
theorem dX1_become_90 : decode cX1_become 90 = .ok (.iconst 3, 1) := by decide +kernel
theorem dX1_become_91 : decode cX1_become 91 = .ok (.if_icmp .gt 21, 3) := by decide +kernel
theorem dX1_become_94 : decode cX1_become 94 = .ok (.aload_n 0, 1) := by decide +kernel
theorem dX1_become_95 : decode cX1_become 95 = .ok (.getfield 28, 3) := by decide +kernel
theorem dX1_become_98 : decode cX1_become 98 = .ok (.iload_n 2, 1) := by decide +kernel
theorem dX1_become_99 : decode cX1_become 99 = .ok (.aload_n 1, 1) := by decide +kernel
theorem dX1_become_100 : decode cX1_become 100 = .ok (.getfield 28, 3) := by decide +kernel
theorem dX1_become_103 : decode cX1_become 103 = .ok (.iload_n 2, 1) := by decide +kernel
theorem dX1_become_104 : decode cX1_become 104 = .ok (.iaload, 1) := by decide +kernel
theorem dX1_become_105 : decode cX1_become 105 = .ok (.iastore, 1) := by decide +kernel
theorem dX1_become_106 : decode cX1_become 106 = .ok (.iinc 2 1, 3) := by decide +kernel
theorem dX1_become_109 : decode cX1_become 109 = .ok (.goto (-20), 3) := by decide +kernel
theorem dX1_become_112 : decode cX1_become 112 = .ok (.iconst 0, 1) := by decide +kernel
theorem dX1_become_113 : decode cX1_become 113 = .ok (.istore_n 2, 1) := by decide +kernel
theorem dX1_become_114 : decode cX1_become 114 = .ok (.iload_n 2, 1) := by decide +kernel
theorem dX1_become_115 : decode cX1_become 115 = .ok (.bipush 8, 2) := by decide +kernel
theorem dX1_become_117 : decode cX1_become 117 = .ok (.if_icmp .ge 33, 3) := by decide +kernel
theorem dX1_become_120 : decode cX1_become 120 = .ok (.aload_n 0, 1) := by decide +kernel
theorem dX1_become_121 : decode cX1_become 121 = .ok (.getfield 31, 3) := by decide +kernel
theorem dX1_become_124 : decode cX1_become 124 = .ok (.iload_n 2, 1) := by decide +kernel
theorem dX1_become_125 : decode cX1_become 125 = .ok (.aload_n 1, 1) := by decide +kernel
theorem dX1_become_126 : decode cX1_become 126 = .ok (.getfield 31, 3) := by decide +kernel
theorem dX1_become_129 : decode cX1_become 129 = .ok (.iload_n 2, 1) := by decide +kernel
theorem dX1_become_130 : decode cX1_become 130 = .ok (.iaload, 1) := by decide +kernel
theorem dX1_become_131 : decode cX1_become 131 = .ok (.iastore, 1) := by decide +kernel
theorem dX1_become_132 : decode cX1_become 132 = .ok (.aload_n 0, 1) := by decide +kernel
theorem dX1_become_133 : decode cX1_become 133 = .ok (.getfield 34, 3) := by decide +kernel
theorem dX1_become_136 : decode cX1_become 136 = .ok (.iload_n 2, 1) := by decide +kernel
theorem dX1_become_137 : decode cX1_become 137 = .ok (.aload_n 1, 1) := by decide +kernel
theorem dX1_become_138 : decode cX1_become 138 = .ok (.getfield 34, 3) := by decide +kernel
theorem dX1_become_141 : decode cX1_become 141 = .ok (.iload_n 2, 1) := by decide +kernel
theorem dX1_become_142 : decode cX1_become 142 = .ok (.iaload, 1) := by decide +kernel
theorem dX1_become_143 : decode cX1_become 143 = .ok (.iastore, 1) := by decide +kernel
theorem dX1_become_144 : decode cX1_become 144 = .ok (.iinc 2 1, 3) := by decide +kernel
theorem dX1_become_147 : decode cX1_become 147 = .ok (.goto (-33), 3) := by decide +kernel
theorem dX1_become_150 : decode cX1_become 150 = .ok (.aload_n 0, 1) := by decide +kernel
theorem dX1_become_151 : decode cX1_become 151 = .ok (.aload_n 1, 1) := by decide +kernel
theorem dX1_become_152 : decode cX1_become 152 = .ok (.getfield 41, 3) := by decide +kernel
theorem dX1_become_155 : decode cX1_become 155 = .ok (.putfield 41, 3) := by decide +kernel
theorem dX1_become_158 : decode cX1_become 158 = .ok (.aload_n 0, 1) := by decide +kernel
theorem dX1_become_159 : decode cX1_become 159 = .ok (.aload_n 1, 1) := by decide +kernel
theorem dX1_become_160 : decode cX1_become 160 = .ok (.getfield 44, 3) := by decide +kernel
theorem dX1_become_163 : decode cX1_become 163 = .ok (.putfield 44, 3) := by decide +kernel
theorem dX1_become_166 : decode cX1_become 166 = .ok (.return_, 1) := by decide +kernel
theorem dX1_isThere_0 : decode cX1_isThere 0 = .ok (.iload_n 1, 1) := by decide +kernel
theorem dX1_isThere_1 : decode cX1_isThere 1 = .ok (.ifCond .lt 21, 3) := by decide +kernel
theorem dX1_isThere_4 : decode cX1_isThere 4 = .ok (.iload_n 1, 1) := by decide +kernel
theorem dX1_isThere_5 : decode cX1_isThere 5 = .ok (.iconst 4, 1) := by decide +kernel
theorem dX1_isThere_6 : decode cX1_isThere 6 = .ok (.if_icmp .ge 16, 3) := by decide +kernel
theorem dX1_isThere_9 : decode cX1_isThere 9 = .ok (.aload_n 0, 1) := by decide +kernel
theorem dX1_isThere_10 : decode cX1_isThere 10 = .ok (.getfield 18, 3) := by decide +kernel
theorem dX1_isThere_13 : decode cX1_isThere 13 = .ok (.iload_n 1, 1) := by decide +kernel
theorem dX1_isThere_14 : decode cX1_isThere 14 = .ok (.baload, 1) := by decide +kernel
theorem dX1_isThere_15 : decode cX1_isThere 15 = .ok (.ifCond .eq 7, 3) := by decide +kernel
theorem dX1_isThere_18 : decode cX1_isThere 18 = .ok (.iconst 1, 1) := by decide +kernel
theorem dX1_isThere_19 : decode cX1_isThere 19 = .ok (.goto 4, 3) := by decide +kernel
theorem dX1_isThere_22 : decode cX1_isThere 22 = .ok (.iconst 0, 1) := by decide +kernel
theorem dX1_isThere_23 : decode cX1_isThere 23 = .ok (.ireturn, 1) := by decide +kernel
theorem dX1_mothBits_0 : decode cX1_mothBits 0 = .ok (.iconst 0, 1) := by decide +kernel
theorem dX1_mothBits_1 : decode cX1_mothBits 1 = .ok (.istore_n 1, 1) := by decide +kernel
theorem dX1_mothBits_2 : decode cX1_mothBits 2 = .ok (.iconst 0, 1) := by decide +kernel
theorem dX1_mothBits_3 : decode cX1_mothBits 3 = .ok (.istore_n 2, 1) := by decide +kernel
theorem dX1_mothBits_4 : decode cX1_mothBits 4 = .ok (.iload_n 2, 1) := by decide +kernel
theorem dX1_mothBits_5 : decode cX1_mothBits 5 = .ok (.iconst 4, 1) := by decide +kernel
theorem dX1_mothBits_6 : decode cX1_mothBits 6 = .ok (.if_icmp .ge 28, 3) := by decide +kernel
theorem dX1_mothBits_9 : decode cX1_mothBits 9 = .ok (.iload_n 1, 1) := by decide +kernel
theorem dX1_mothBits_10 : decode cX1_mothBits 10 = .ok (.aload_n 0, 1) := by decide +kernel
theorem dX1_mothBits_11 : decode cX1_mothBits 11 = .ok (.getfield 18, 3) := by decide +kernel
theorem dX1_mothBits_14 : decode cX1_mothBits 14 = .ok (.iload_n 2, 1) := by decide +kernel
theorem dX1_mothBits_15 : decode cX1_mothBits 15 = .ok (.baload, 1) := by decide +kernel
theorem dX1_mothBits_16 : decode cX1_mothBits 16 = .ok (.ifCond .eq 9, 3) := by decide +kernel
theorem dX1_mothBits_19 : decode cX1_mothBits 19 = .ok (.iconst 1, 1) := by decide +kernel
theorem dX1_mothBits_20 : decode cX1_mothBits 20 = .ok (.iload_n 2, 1) := by decide +kernel
theorem dX1_mothBits_21 : decode cX1_mothBits 21 = .ok (.ishl, 1) := by decide +kernel
theorem dX1_mothBits_22 : decode cX1_mothBits 22 = .ok (.goto 4, 3) := by decide +kernel
theorem dX1_mothBits_25 : decode cX1_mothBits 25 = .ok (.iconst 0, 1) := by decide +kernel
theorem dX1_mothBits_26 : decode cX1_mothBits 26 = .ok (.ior, 1) := by decide +kernel
theorem dX1_mothBits_27 : decode cX1_mothBits 27 = .ok (.istore_n 1, 1) := by decide +kernel
theorem dX1_mothBits_28 : decode cX1_mothBits 28 = .ok (.iinc 2 1, 3) := by decide +kernel
theorem dX1_mothBits_31 : decode cX1_mothBits 31 = .ok (.goto (-27), 3) := by decide +kernel
theorem dX1_mothBits_34 : decode cX1_mothBits 34 = .ok (.iload_n 1, 1) := by decide +kernel
theorem dX1_mothBits_35 : decode cX1_mothBits 35 = .ok (.ireturn, 1) := by decide +kernel
theorem dX1_mothCellBits_0 : decode cX1_mothCellBits 0 = .ok (.iconst 0, 1) := by decide +kernel
theorem dX1_mothCellBits_1 : decode cX1_mothCellBits 1 = .ok (.istore_n 1, 1) := by decide +kernel
theorem dX1_mothCellBits_2 : decode cX1_mothCellBits 2 = .ok (.iconst 0, 1) := by decide +kernel
theorem dX1_mothCellBits_3 : decode cX1_mothCellBits 3 = .ok (.istore_n 2, 1) := by decide +kernel
theorem dX1_mothCellBits_4 : decode cX1_mothCellBits 4 = .ok (.iload_n 2, 1) := by decide +kernel
theorem dX1_mothCellBits_5 : decode cX1_mothCellBits 5 = .ok (.iconst 4, 1) := by decide +kernel
theorem dX1_mothCellBits_6 : decode cX1_mothCellBits 6 = .ok (.if_icmp .ge 33, 3) := by decide +kernel
theorem dX1_mothCellBits_9 : decode cX1_mothCellBits 9 = .ok (.iload_n 1, 1) := by decide +kernel
theorem dX1_mothCellBits_10 : decode cX1_mothCellBits 10 = .ok (.aload_n 0, 1) := by decide +kernel
theorem dX1_mothCellBits_11 : decode cX1_mothCellBits 11 = .ok (.getfield 18, 3) := by decide +kernel
theorem dX1_mothCellBits_14 : decode cX1_mothCellBits 14 = .ok (.iload_n 2, 1) := by decide +kernel
theorem dX1_mothCellBits_15 : decode cX1_mothCellBits 15 = .ok (.baload, 1) := by decide +kernel
theorem dX1_mothCellBits_16 : decode cX1_mothCellBits 16 = .ok (.ifCond .eq 14, 3) := by decide +kernel
theorem dX1_mothCellBits_19 : decode cX1_mothCellBits 19 = .ok (.iconst 1, 1) := by decide +kernel
theorem dX1_mothCellBits_20 : decode cX1_mothCellBits 20 = .ok (.aload_n 0, 1) := by decide +kernel
theorem dX1_mothCellBits_21 : decode cX1_mothCellBits 21 = .ok (.getfield 22, 3) := by decide +kernel
theorem dX1_mothCellBits_24 : decode cX1_mothCellBits 24 = .ok (.iload_n 2, 1) := by decide +kernel
theorem dX1_mothCellBits_25 : decode cX1_mothCellBits 25 = .ok (.iaload, 1) := by decide +kernel
theorem dX1_mothCellBits_26 : decode cX1_mothCellBits 26 = .ok (.ishl, 1) := by decide +kernel
theorem dX1_mothCellBits_27 : decode cX1_mothCellBits 27 = .ok (.goto 4, 3) := by decide +kernel
theorem dX1_mothCellBits_30 : decode cX1_mothCellBits 30 = .ok (.iconst 0, 1) := by decide +kernel
theorem dX1_mothCellBits_31 : decode cX1_mothCellBits 31 = .ok (.ior, 1) := by decide +kernel
theorem dX1_mothCellBits_32 : decode cX1_mothCellBits 32 = .ok (.istore_n 1, 1) := by decide +kernel
theorem dX1_mothCellBits_33 : decode cX1_mothCellBits 33 = .ok (.iinc 2 1, 3) := by decide +kernel
theorem dX1_mothCellBits_36 : decode cX1_mothCellBits 36 = .ok (.goto (-32), 3) := by decide +kernel
theorem dX1_mothCellBits_39 : decode cX1_mothCellBits 39 = .ok (.iload_n 1, 1) := by decide +kernel
theorem dX1_mothCellBits_40 : decode cX1_mothCellBits 40 = .ok (.ireturn, 1) := by decide +kernel
theorem dX1_bitsOf_0 : decode cX1_bitsOf 0 = .ok (.iconst 0, 1) := by decide +kernel
theorem dX1_bitsOf_1 : decode cX1_bitsOf 1 = .ok (.istore_n 2, 1) := by decide +kernel
theorem dX1_bitsOf_2 : decode cX1_bitsOf 2 = .ok (.iconst 0, 1) := by decide +kernel
theorem dX1_bitsOf_3 : decode cX1_bitsOf 3 = .ok (.istore_n 3, 1) := by decide +kernel
theorem dX1_bitsOf_4 : decode cX1_bitsOf 4 = .ok (.iload_n 3, 1) := by decide +kernel
theorem dX1_bitsOf_5 : decode cX1_bitsOf 5 = .ok (.bipush 25, 2) := by decide +kernel
theorem dX1_bitsOf_7 : decode cX1_bitsOf 7 = .ok (.if_icmp .ge 29, 3) := by decide +kernel
theorem dX1_bitsOf_10 : decode cX1_bitsOf 10 = .ok (.iload_n 2, 1) := by decide +kernel
theorem dX1_bitsOf_11 : decode cX1_bitsOf 11 = .ok (.aload_n 0, 1) := by decide +kernel
theorem dX1_bitsOf_12 : decode cX1_bitsOf 12 = .ok (.getfield 9, 3) := by decide +kernel
theorem dX1_bitsOf_15 : decode cX1_bitsOf 15 = .ok (.iload_n 3, 1) := by decide +kernel
theorem dX1_bitsOf_16 : decode cX1_bitsOf 16 = .ok (.iaload, 1) := by decide +kernel
theorem dX1_bitsOf_17 : decode cX1_bitsOf 17 = .ok (.iload_n 1, 1) := by decide +kernel
theorem dX1_bitsOf_18 : decode cX1_bitsOf 18 = .ok (.if_icmp .ne 9, 3) := by decide +kernel
theorem dX1_bitsOf_21 : decode cX1_bitsOf 21 = .ok (.iconst 1, 1) := by decide +kernel
theorem dX1_bitsOf_22 : decode cX1_bitsOf 22 = .ok (.iload_n 3, 1) := by decide +kernel
theorem dX1_bitsOf_23 : decode cX1_bitsOf 23 = .ok (.ishl, 1) := by decide +kernel
theorem dX1_bitsOf_24 : decode cX1_bitsOf 24 = .ok (.goto 4, 3) := by decide +kernel
theorem dX1_bitsOf_27 : decode cX1_bitsOf 27 = .ok (.iconst 0, 1) := by decide +kernel
theorem dX1_bitsOf_28 : decode cX1_bitsOf 28 = .ok (.ior, 1) := by decide +kernel
theorem dX1_bitsOf_29 : decode cX1_bitsOf 29 = .ok (.istore_n 2, 1) := by decide +kernel
theorem dX1_bitsOf_30 : decode cX1_bitsOf 30 = .ok (.iinc 3 1, 3) := by decide +kernel
theorem dX1_bitsOf_33 : decode cX1_bitsOf 33 = .ok (.goto (-29), 3) := by decide +kernel
theorem dX1_bitsOf_36 : decode cX1_bitsOf 36 = .ok (.iload_n 2, 1) := by decide +kernel
theorem dX1_bitsOf_37 : decode cX1_bitsOf 37 = .ok (.ireturn, 1) := by decide +kernel
theorem dX1_countOf_0 : decode cX1_countOf 0 = .ok (.aload_n 0, 1) := by decide +kernel
theorem dX1_countOf_1 : decode cX1_countOf 1 = .ok (.iload_n 1, 1) := by decide +kernel
theorem dX1_countOf_2 : decode cX1_countOf 2 = .ok (.invokevirtual 47, 3) := by decide +kernel
theorem dX1_countOf_5 : decode cX1_countOf 5 = .ok (.invokestatic 51, 3) := by decide +kernel
theorem dX1_countOf_8 : decode cX1_countOf 8 = .ok (.ireturn, 1) := by decide +kernel
theorem dX1_threadsInAll_0 : decode cX1_threadsInAll 0 = .ok (.aload_n 0, 1) := by decide +kernel
theorem dX1_threadsInAll_1 : decode cX1_threadsInAll 1 = .ok (.getfield 28, 3) := by decide +kernel
theorem dX1_threadsInAll_4 : decode cX1_threadsInAll 4 = .ok (.iconst 1, 1) := by decide +kernel
theorem dX1_threadsInAll_5 : decode cX1_threadsInAll 5 = .ok (.iaload, 1) := by decide +kernel
theorem dX1_threadsInAll_6 : decode cX1_threadsInAll 6 = .ok (.aload_n 0, 1) := by decide +kernel
theorem dX1_threadsInAll_7 : decode cX1_threadsInAll 7 = .ok (.getfield 28, 3) := by decide +kernel
theorem dX1_threadsInAll_10 : decode cX1_threadsInAll 10 = .ok (.iconst 2, 1) := by decide +kernel
theorem dX1_threadsInAll_11 : decode cX1_threadsInAll 11 = .ok (.iaload, 1) := by decide +kernel
theorem dX1_threadsInAll_12 : decode cX1_threadsInAll 12 = .ok (.iadd, 1) := by decide +kernel
theorem dX1_threadsInAll_13 : decode cX1_threadsInAll 13 = .ok (.aload_n 0, 1) := by decide +kernel
theorem dX1_threadsInAll_14 : decode cX1_threadsInAll 14 = .ok (.getfield 28, 3) := by decide +kernel
theorem dX1_threadsInAll_17 : decode cX1_threadsInAll 17 = .ok (.iconst 3, 1) := by decide +kernel
theorem dX1_threadsInAll_18 : decode cX1_threadsInAll 18 = .ok (.iaload, 1) := by decide +kernel
theorem dX1_threadsInAll_19 : decode cX1_threadsInAll 19 = .ok (.iadd, 1) := by decide +kernel
theorem dX1_threadsInAll_20 : decode cX1_threadsInAll 20 = .ok (.ireturn, 1) := by decide +kernel
theorem dX1_fourLandsFrom_0 : decode cX1_fourLandsFrom 0 = .ok (.iload_n 1, 1) := by decide +kernel
theorem dX1_fourLandsFrom_1 : decode cX1_fourLandsFrom 1 = .ok (.iconst 1, 1) := by decide +kernel
theorem dX1_fourLandsFrom_2 : decode cX1_fourLandsFrom 2 = .ok (.invokestatic 56, 3) := by decide +kernel
theorem dX1_fourLandsFrom_5 : decode cX1_fourLandsFrom 5 = .ok (.istore_n 2, 1) := by decide +kernel
theorem dX1_fourLandsFrom_6 : decode cX1_fourLandsFrom 6 = .ok (.iload_n 1, 1) := by decide +kernel
theorem dX1_fourLandsFrom_7 : decode cX1_fourLandsFrom 7 = .ok (.iconst 2, 1) := by decide +kernel
theorem dX1_fourLandsFrom_8 : decode cX1_fourLandsFrom 8 = .ok (.invokestatic 56, 3) := by decide +kernel
theorem dX1_fourLandsFrom_11 : decode cX1_fourLandsFrom 11 = .ok (.istore_n 3, 1) := by decide +kernel
theorem dX1_fourLandsFrom_12 : decode cX1_fourLandsFrom 12 = .ok (.iload_n 2, 1) := by decide +kernel
theorem dX1_fourLandsFrom_13 : decode cX1_fourLandsFrom 13 = .ok (.invokestatic 60, 3) := by decide +kernel
theorem dX1_fourLandsFrom_16 : decode cX1_fourLandsFrom 16 = .ok (.ifCond .eq 19, 3) := by decide +kernel
theorem dX1_fourLandsFrom_19 : decode cX1_fourLandsFrom 19 = .ok (.iload_n 3, 1) := by decide +kernel
theorem dX1_fourLandsFrom_20 : decode cX1_fourLandsFrom 20 = .ok (.invokestatic 60, 3) := by decide +kernel
theorem dX1_fourLandsFrom_23 : decode cX1_fourLandsFrom 23 = .ok (.ifCond .eq 12, 3) := by decide +kernel
theorem dX1_fourLandsFrom_26 : decode cX1_fourLandsFrom 26 = .ok (.iload_n 3, 1) := by decide +kernel
theorem dX1_fourLandsFrom_27 : decode cX1_fourLandsFrom 27 = .ok (.iconst 1, 1) := by decide +kernel
theorem dX1_fourLandsFrom_28 : decode cX1_fourLandsFrom 28 = .ok (.iadd, 1) := by decide +kernel
theorem dX1_fourLandsFrom_29 : decode cX1_fourLandsFrom 29 = .ok (.invokestatic 60, 3) := by decide +kernel
theorem dX1_fourLandsFrom_32 : decode cX1_fourLandsFrom 32 = .ok (.ifCond .ne 5, 3) := by decide +kernel
theorem dX1_fourLandsFrom_35 : decode cX1_fourLandsFrom 35 = .ok (.iconst (-1), 1) := by decide +kernel
theorem dX1_fourLandsFrom_36 : decode cX1_fourLandsFrom 36 = .ok (.ireturn, 1) := by decide +kernel
theorem dX1_fourLandsFrom_37 : decode cX1_fourLandsFrom 37 = .ok (.sipush 1000, 3) := by decide +kernel
theorem dX1_fourLandsFrom_40 : decode cX1_fourLandsFrom 40 = .ok (.aload_n 0, 1) := by decide +kernel
theorem dX1_fourLandsFrom_41 : decode cX1_fourLandsFrom 41 = .ok (.getfield 9, 3) := by decide +kernel
theorem dX1_fourLandsFrom_44 : decode cX1_fourLandsFrom 44 = .ok (.iload_n 1, 1) := by decide +kernel
theorem dX1_fourLandsFrom_45 : decode cX1_fourLandsFrom 45 = .ok (.iaload, 1) := by decide +kernel
theorem dX1_fourLandsFrom_46 : decode cX1_fourLandsFrom 46 = .ok (.imul, 1) := by decide +kernel
theorem dX1_fourLandsFrom_47 : decode cX1_fourLandsFrom 47 = .ok (.bipush 100, 2) := by decide +kernel
theorem dX1_fourLandsFrom_49 : decode cX1_fourLandsFrom 49 = .ok (.aload_n 0, 1) := by decide +kernel
theorem dX1_fourLandsFrom_50 : decode cX1_fourLandsFrom 50 = .ok (.getfield 9, 3) := by decide +kernel
theorem dX1_fourLandsFrom_53 : decode cX1_fourLandsFrom 53 = .ok (.iload_n 2, 1) := by decide +kernel
theorem dX1_fourLandsFrom_54 : decode cX1_fourLandsFrom 54 = .ok (.iaload, 1) := by decide +kernel
theorem dX1_fourLandsFrom_55 : decode cX1_fourLandsFrom 55 = .ok (.imul, 1) := by decide +kernel
theorem dX1_fourLandsFrom_56 : decode cX1_fourLandsFrom 56 = .ok (.iadd, 1) := by decide +kernel
theorem dX1_fourLandsFrom_57 : decode cX1_fourLandsFrom 57 = .ok (.bipush 10, 2) := by decide +kernel
theorem dX1_fourLandsFrom_59 : decode cX1_fourLandsFrom 59 = .ok (.aload_n 0, 1) := by decide +kernel
theorem dX1_fourLandsFrom_60 : decode cX1_fourLandsFrom 60 = .ok (.getfield 9, 3) := by decide +kernel
theorem dX1_fourLandsFrom_63 : decode cX1_fourLandsFrom 63 = .ok (.iload_n 3, 1) := by decide +kernel
theorem dX1_fourLandsFrom_64 : decode cX1_fourLandsFrom 64 = .ok (.iaload, 1) := by decide +kernel
theorem dX1_fourLandsFrom_65 : decode cX1_fourLandsFrom 65 = .ok (.imul, 1) := by decide +kernel
theorem dX1_fourLandsFrom_66 : decode cX1_fourLandsFrom 66 = .ok (.iadd, 1) := by decide +kernel
theorem dX1_fourLandsFrom_67 : decode cX1_fourLandsFrom 67 = .ok (.aload_n 0, 1) := by decide +kernel
theorem dX1_fourLandsFrom_68 : decode cX1_fourLandsFrom 68 = .ok (.getfield 9, 3) := by decide +kernel
theorem dX1_fourLandsFrom_71 : decode cX1_fourLandsFrom 71 = .ok (.iload_n 3, 1) := by decide +kernel
theorem dX1_fourLandsFrom_72 : decode cX1_fourLandsFrom 72 = .ok (.iconst 1, 1) := by decide +kernel
theorem dX1_fourLandsFrom_73 : decode cX1_fourLandsFrom 73 = .ok (.iadd, 1) := by decide +kernel
theorem dX1_fourLandsFrom_74 : decode cX1_fourLandsFrom 74 = .ok (.iaload, 1) := by decide +kernel
theorem dX1_fourLandsFrom_75 : decode cX1_fourLandsFrom 75 = .ok (.iadd, 1) := by decide +kernel
theorem dX1_fourLandsFrom_76 : decode cX1_fourLandsFrom 76 = .ok (.ireturn, 1) := by decide +kernel
theorem dX1_addSight_0 : decode cX1_addSight 0 = .ok (.aload_n 0, 1) := by decide +kernel
theorem dX1_addSight_1 : decode cX1_addSight 1 = .ok (.getfield 41, 3) := by decide +kernel
theorem dX1_addSight_4 : decode cX1_addSight 4 = .ok (.bipush 8, 2) := by decide +kernel
theorem dX1_addSight_6 : decode cX1_addSight 6 = .ok (.if_icmp .lt 5, 3) := by decide +kernel
theorem dX1_addSight_9 : decode cX1_addSight 9 = .ok (.iconst 0, 1) := by decide +kernel
theorem dX1_addSight_10 : decode cX1_addSight 10 = .ok (.ireturn, 1) := by decide +kernel
theorem dX1_addSight_11 : decode cX1_addSight 11 = .ok (.aload_n 0, 1) := by decide +kernel
theorem dX1_addSight_12 : decode cX1_addSight 12 = .ok (.getfield 31, 3) := by decide +kernel
theorem dX1_addSight_15 : decode cX1_addSight 15 = .ok (.aload_n 0, 1) := by decide +kernel
theorem dX1_addSight_16 : decode cX1_addSight 16 = .ok (.getfield 41, 3) := by decide +kernel
theorem dX1_addSight_19 : decode cX1_addSight 19 = .ok (.iload_n 1, 1) := by decide +kernel
theorem dX1_addSight_20 : decode cX1_addSight 20 = .ok (.iastore, 1) := by decide +kernel
theorem dX1_addSight_21 : decode cX1_addSight 21 = .ok (.aload_n 0, 1) := by decide +kernel
theorem dX1_addSight_22 : decode cX1_addSight 22 = .ok (.getfield 34, 3) := by decide +kernel
theorem dX1_addSight_25 : decode cX1_addSight 25 = .ok (.aload_n 0, 1) := by decide +kernel
theorem dX1_addSight_26 : decode cX1_addSight 26 = .ok (.getfield 41, 3) := by decide +kernel
theorem dX1_addSight_29 : decode cX1_addSight 29 = .ok (.iload_n 2, 1) := by decide +kernel
theorem dX1_addSight_30 : decode cX1_addSight 30 = .ok (.iastore, 1) := by decide +kernel
theorem dX1_addSight_31 : decode cX1_addSight 31 = .ok (.aload_n 0, 1) := by decide +kernel
theorem dX1_addSight_32 : decode cX1_addSight 32 = .ok (.dup, 1) := by decide +kernel
theorem dX1_addSight_33 : decode cX1_addSight 33 = .ok (.getfield 41, 3) := by decide +kernel
theorem dX1_addSight_36 : decode cX1_addSight 36 = .ok (.iconst 1, 1) := by decide +kernel
theorem dX1_addSight_37 : decode cX1_addSight 37 = .ok (.iadd, 1) := by decide +kernel
theorem dX1_addSight_38 : decode cX1_addSight 38 = .ok (.putfield 41, 3) := by decide +kernel
theorem dX1_addSight_41 : decode cX1_addSight 41 = .ok (.iconst 1, 1) := by decide +kernel
theorem dX1_addSight_42 : decode cX1_addSight 42 = .ok (.ireturn, 1) := by decide +kernel
theorem dX1_turn_0 : decode cX1_turn 0 = .ok (.aload_n 0, 1) := by decide +kernel
theorem dX1_turn_1 : decode cX1_turn 1 = .ok (.iload_n 1, 1) := by decide +kernel
theorem dX1_turn_2 : decode cX1_turn 2 = .ok (.invokevirtual 64, 3) := by decide +kernel
theorem dX1_turn_5 : decode cX1_turn 5 = .ok (.ifCond .ne 5, 3) := by decide +kernel
theorem dX1_turn_8 : decode cX1_turn 8 = .ok (.iconst 1, 1) := by decide +kernel
theorem dX1_turn_9 : decode cX1_turn 9 = .ok (.ireturn, 1) := by decide +kernel
theorem dX1_turn_10 : decode cX1_turn 10 = .ok (.aload_n 0, 1) := by decide +kernel
theorem dX1_turn_11 : decode cX1_turn 11 = .ok (.getfield 25, 3) := by decide +kernel
theorem dX1_turn_14 : decode cX1_turn 14 = .ok (.iload_n 1, 1) := by decide +kernel
theorem dX1_turn_15 : decode cX1_turn 15 = .ok (.iaload, 1) := by decide +kernel
theorem dX1_turn_16 : decode cX1_turn 16 = .ok (.iload_n 2, 1) := by decide +kernel
theorem dX1_turn_17 : decode cX1_turn 17 = .ok (.if_icmp .ne 5, 3) := by decide +kernel
theorem dX1_turn_20 : decode cX1_turn 20 = .ok (.iconst 2, 1) := by decide +kernel
theorem dX1_turn_21 : decode cX1_turn 21 = .ok (.ireturn, 1) := by decide +kernel
theorem dX1_turn_22 : decode cX1_turn 22 = .ok (.aload_n 0, 1) := by decide +kernel
theorem dX1_turn_23 : decode cX1_turn 23 = .ok (.getfield 25, 3) := by decide +kernel
theorem dX1_turn_26 : decode cX1_turn 26 = .ok (.iload_n 1, 1) := by decide +kernel
theorem dX1_turn_27 : decode cX1_turn 27 = .ok (.iload_n 2, 1) := by decide +kernel
theorem dX1_turn_28 : decode cX1_turn 28 = .ok (.iastore, 1) := by decide +kernel
theorem dX1_turn_29 : decode cX1_turn 29 = .ok (.iconst 0, 1) := by decide +kernel
theorem dX1_turn_30 : decode cX1_turn 30 = .ok (.ireturn, 1) := by decide +kernel
theorem dX1_catchMoth_0 : decode cX1_catchMoth 0 = .ok (.aload_n 0, 1) := by decide +kernel
theorem dX1_catchMoth_1 : decode cX1_catchMoth 1 = .ok (.iload_n 1, 1) := by decide +kernel
theorem dX1_catchMoth_2 : decode cX1_catchMoth 2 = .ok (.invokevirtual 64, 3) := by decide +kernel
theorem dX1_catchMoth_5 : decode cX1_catchMoth 5 = .ok (.ifCond .ne 5, 3) := by decide +kernel
theorem dX1_catchMoth_8 : decode cX1_catchMoth 8 = .ok (.iconst 1, 1) := by decide +kernel
theorem dX1_catchMoth_9 : decode cX1_catchMoth 9 = .ok (.ireturn, 1) := by decide +kernel
theorem dX1_catchMoth_10 : decode cX1_catchMoth 10 = .ok (.aload_n 0, 1) := by decide +kernel
theorem dX1_catchMoth_11 : decode cX1_catchMoth 11 = .ok (.getfield 18, 3) := by decide +kernel
theorem dX1_catchMoth_14 : decode cX1_catchMoth 14 = .ok (.iload_n 1, 1) := by decide +kernel
theorem dX1_catchMoth_15 : decode cX1_catchMoth 15 = .ok (.iconst 0, 1) := by decide +kernel
theorem dX1_catchMoth_16 : decode cX1_catchMoth 16 = .ok (.bastore, 1) := by decide +kernel
theorem dX1_catchMoth_17 : decode cX1_catchMoth 17 = .ok (.iconst 0, 1) := by decide +kernel
theorem dX1_catchMoth_18 : decode cX1_catchMoth 18 = .ok (.ireturn, 1) := by decide +kernel
theorem dX1_layCamphor_0 : decode cX1_layCamphor 0 = .ok (.iload_n 1, 1) := by decide +kernel
theorem dX1_layCamphor_1 : decode cX1_layCamphor 1 = .ok (.invokestatic 60, 3) := by decide +kernel
theorem dX1_layCamphor_4 : decode cX1_layCamphor 4 = .ok (.ifCond .eq 13, 3) := by decide +kernel
theorem dX1_layCamphor_7 : decode cX1_layCamphor 7 = .ok (.aload_n 0, 1) := by decide +kernel
theorem dX1_layCamphor_8 : decode cX1_layCamphor 8 = .ok (.getfield 15, 3) := by decide +kernel
theorem dX1_layCamphor_11 : decode cX1_layCamphor 11 = .ok (.iload_n 1, 1) := by decide +kernel
theorem dX1_layCamphor_12 : decode cX1_layCamphor 12 = .ok (.iaload, 1) := by decide +kernel
theorem dX1_layCamphor_13 : decode cX1_layCamphor 13 = .ok (.iconst 3, 1) := by decide +kernel
theorem dX1_layCamphor_14 : decode cX1_layCamphor 14 = .ok (.if_icmp .lt 5, 3) := by decide +kernel
theorem dX1_layCamphor_17 : decode cX1_layCamphor 17 = .ok (.iconst 3, 1) := by decide +kernel
theorem dX1_layCamphor_18 : decode cX1_layCamphor 18 = .ok (.ireturn, 1) := by decide +kernel
theorem dX1_layCamphor_19 : decode cX1_layCamphor 19 = .ok (.aload_n 0, 1) := by decide +kernel
theorem dX1_layCamphor_20 : decode cX1_layCamphor 20 = .ok (.getfield 15, 3) := by decide +kernel
theorem dX1_layCamphor_23 : decode cX1_layCamphor 23 = .ok (.iload_n 1, 1) := by decide +kernel
theorem dX1_layCamphor_24 : decode cX1_layCamphor 24 = .ok (.iconst 3, 1) := by decide +kernel
theorem dX1_layCamphor_25 : decode cX1_layCamphor 25 = .ok (.iastore, 1) := by decide +kernel
theorem dX1_layCamphor_26 : decode cX1_layCamphor 26 = .ok (.iconst 0, 1) := by decide +kernel
theorem dX1_layCamphor_27 : decode cX1_layCamphor 27 = .ok (.ireturn, 1) := by decide +kernel
theorem dX1_darn_0 : decode cX1_darn 0 = .ok (.iload_n 1, 1) := by decide +kernel
theorem dX1_darn_1 : decode cX1_darn 1 = .ok (.invokestatic 60, 3) := by decide +kernel
theorem dX1_darn_4 : decode cX1_darn 4 = .ok (.ifCond .eq 12, 3) := by decide +kernel
theorem dX1_darn_7 : decode cX1_darn 7 = .ok (.aload_n 0, 1) := by decide +kernel
theorem dX1_darn_8 : decode cX1_darn 8 = .ok (.getfield 9, 3) := by decide +kernel
theorem dX1_darn_11 : decode cX1_darn 11 = .ok (.iload_n 1, 1) := by decide +kernel
theorem dX1_darn_12 : decode cX1_darn 12 = .ok (.iaload, 1) := by decide +kernel
theorem dX1_darn_13 : decode cX1_darn 13 = .ok (.ifCond .eq 5, 3) := by decide +kernel
theorem dX1_darn_16 : decode cX1_darn 16 = .ok (.iconst 4, 1) := by decide +kernel
theorem dX1_darn_17 : decode cX1_darn 17 = .ok (.ireturn, 1) := by decide +kernel
theorem dX1_darn_18 : decode cX1_darn 18 = .ok (.iload_n 2, 1) := by decide +kernel
theorem dX1_darn_19 : decode cX1_darn 19 = .ok (.invokestatic 67, 3) := by decide +kernel
theorem dX1_darn_22 : decode cX1_darn 22 = .ok (.ifCond .eq 12, 3) := by decide +kernel
theorem dX1_darn_25 : decode cX1_darn 25 = .ok (.aload_n 0, 1) := by decide +kernel
theorem dX1_darn_26 : decode cX1_darn 26 = .ok (.getfield 28, 3) := by decide +kernel
theorem dX1_darn_29 : decode cX1_darn 29 = .ok (.iload_n 2, 1) := by decide +kernel
theorem dX1_darn_30 : decode cX1_darn 30 = .ok (.iaload, 1) := by decide +kernel
theorem dX1_darn_31 : decode cX1_darn 31 = .ok (.ifCond .ne 5, 3) := by decide +kernel
theorem dX1_darn_34 : decode cX1_darn 34 = .ok (.iconst 5, 1) := by decide +kernel
theorem dX1_darn_35 : decode cX1_darn 35 = .ok (.ireturn, 1) := by decide +kernel
theorem dX1_darn_36 : decode cX1_darn 36 = .ok (.aload_n 0, 1) := by decide +kernel
theorem dX1_darn_37 : decode cX1_darn 37 = .ok (.getfield 28, 3) := by decide +kernel
theorem dX1_darn_40 : decode cX1_darn 40 = .ok (.iload_n 2, 1) := by decide +kernel
theorem dX1_darn_41 : decode cX1_darn 41 = .ok (.dup2, 1) := by decide +kernel
theorem dX1_darn_42 : decode cX1_darn 42 = .ok (.iaload, 1) := by decide +kernel
theorem dX1_darn_43 : decode cX1_darn 43 = .ok (.iconst 1, 1) := by decide +kernel
theorem dX1_darn_44 : decode cX1_darn 44 = .ok (.isub, 1) := by decide +kernel
theorem dX1_darn_45 : decode cX1_darn 45 = .ok (.iastore, 1) := by decide +kernel
theorem dX1_darn_46 : decode cX1_darn 46 = .ok (.aload_n 0, 1) := by decide +kernel
theorem dX1_darn_47 : decode cX1_darn 47 = .ok (.getfield 9, 3) := by decide +kernel
theorem dX1_darn_50 : decode cX1_darn 50 = .ok (.iload_n 1, 1) := by decide +kernel
theorem dX1_darn_51 : decode cX1_darn 51 = .ok (.iload_n 2, 1) := by decide +kernel
theorem dX1_darn_52 : decode cX1_darn 52 = .ok (.invokestatic 70, 3) := by decide +kernel
theorem dX1_darn_55 : decode cX1_darn 55 = .ok (.iastore, 1) := by decide +kernel
theorem dX1_darn_56 : decode cX1_darn 56 = .ok (.iconst 0, 1) := by decide +kernel
theorem dX1_darn_57 : decode cX1_darn 57 = .ok (.ireturn, 1) := by decide +kernel
theorem dX1_landBy_0 : decode cX1_landBy 0 = .ok (.iload_n 0, 1) := by decide +kernel
theorem dX1_landBy_1 : decode cX1_landBy 1 = .ok (.lookupswitch 31 #[(1, 27), (2, 29)], 27) := by decide +kernel
theorem dX1_landBy_28 : decode cX1_landBy 28 = .ok (.iconst 2, 1) := by decide +kernel
theorem dX1_landBy_29 : decode cX1_landBy 29 = .ok (.ireturn, 1) := by decide +kernel
theorem dX1_landBy_30 : decode cX1_landBy 30 = .ok (.iconst 3, 1) := by decide +kernel
theorem dX1_landBy_31 : decode cX1_landBy 31 = .ok (.ireturn, 1) := by decide +kernel
theorem dX1_landBy_32 : decode cX1_landBy 32 = .ok (.iconst 5, 1) := by decide +kernel
theorem dX1_landBy_33 : decode cX1_landBy 33 = .ok (.ireturn, 1) := by decide +kernel
theorem dX1_passNight_0 : decode cX1_passNight 0 = .ok (.aload_n 0, 1) := by decide +kernel
theorem dX1_passNight_1 : decode cX1_passNight 1 = .ok (.getfield 44, 3) := by decide +kernel
theorem dX1_passNight_4 : decode cX1_passNight 4 = .ok (.bipush 99, 2) := by decide +kernel
theorem dX1_passNight_6 : decode cX1_passNight 6 = .ok (.if_icmp .lt 6, 3) := by decide +kernel
theorem dX1_passNight_9 : decode cX1_passNight 9 = .ok (.bipush 6, 2) := by decide +kernel
theorem dX1_passNight_11 : decode cX1_passNight 11 = .ok (.ireturn, 1) := by decide +kernel
theorem dX1_passNight_12 : decode cX1_passNight 12 = .ok (.aload_n 0, 1) := by decide +kernel
theorem dX1_passNight_13 : decode cX1_passNight 13 = .ok (.bipush (-6), 2) := by decide +kernel
theorem dX1_passNight_15 : decode cX1_passNight 15 = .ok (.putfield 37, 3) := by decide +kernel
theorem dX1_passNight_18 : decode cX1_passNight 18 = .ok (.iconst 0, 1) := by decide +kernel
theorem dX1_passNight_19 : decode cX1_passNight 19 = .ok (.istore_n 1, 1) := by decide +kernel
theorem dX1_passNight_20 : decode cX1_passNight 20 = .ok (.iload_n 1, 1) := by decide +kernel
theorem dX1_passNight_21 : decode cX1_passNight 21 = .ok (.iconst 4, 1) := by decide +kernel
theorem dX1_passNight_22 : decode cX1_passNight 22 = .ok (.if_icmp .ge 23, 3) := by decide +kernel
theorem dX1_passNight_25 : decode cX1_passNight 25 = .ok (.aload_n 0, 1) := by decide +kernel
theorem dX1_passNight_26 : decode cX1_passNight 26 = .ok (.getfield 18, 3) := by decide +kernel
theorem dX1_passNight_29 : decode cX1_passNight 29 = .ok (.iload_n 1, 1) := by decide +kernel
theorem dX1_passNight_30 : decode cX1_passNight 30 = .ok (.baload, 1) := by decide +kernel
theorem dX1_passNight_31 : decode cX1_passNight 31 = .ok (.ifCond .eq 8, 3) := by decide +kernel
theorem dX1_passNight_34 : decode cX1_passNight 34 = .ok (.aload_n 0, 1) := by decide +kernel
theorem dX1_passNight_35 : decode cX1_passNight 35 = .ok (.iload_n 1, 1) := by decide +kernel
theorem dX1_passNight_36 : decode cX1_passNight 36 = .ok (.invokevirtual 73, 3) := by decide +kernel
theorem dX1_passNight_39 : decode cX1_passNight 39 = .ok (.iinc 1 1, 3) := by decide +kernel
theorem dX1_passNight_42 : decode cX1_passNight 42 = .ok (.goto (-22), 3) := by decide +kernel
theorem dX1_passNight_45 : decode cX1_passNight 45 = .ok (.iconst 0, 1) := by decide +kernel
theorem dX1_passNight_46 : decode cX1_passNight 46 = .ok (.istore_n 1, 1) := by decide +kernel
theorem dX1_passNight_47 : decode cX1_passNight 47 = .ok (.iload_n 1, 1) := by decide +kernel
theorem dX1_passNight_48 : decode cX1_passNight 48 = .ok (.bipush 25, 2) := by decide +kernel
theorem dX1_passNight_50 : decode cX1_passNight 50 = .ok (.if_icmp .ge 27, 3) := by decide +kernel
theorem dX1_passNight_53 : decode cX1_passNight 53 = .ok (.aload_n 0, 1) := by decide +kernel
theorem dX1_passNight_54 : decode cX1_passNight 54 = .ok (.getfield 15, 3) := by decide +kernel
theorem dX1_passNight_57 : decode cX1_passNight 57 = .ok (.iload_n 1, 1) := by decide +kernel
theorem dX1_passNight_58 : decode cX1_passNight 58 = .ok (.iconst 0, 1) := by decide +kernel
theorem dX1_passNight_59 : decode cX1_passNight 59 = .ok (.aload_n 0, 1) := by decide +kernel
theorem dX1_passNight_60 : decode cX1_passNight 60 = .ok (.getfield 15, 3) := by decide +kernel
theorem dX1_passNight_63 : decode cX1_passNight 63 = .ok (.iload_n 1, 1) := by decide +kernel
theorem dX1_passNight_64 : decode cX1_passNight 64 = .ok (.iaload, 1) := by decide +kernel
theorem dX1_passNight_65 : decode cX1_passNight 65 = .ok (.iconst 1, 1) := by decide +kernel
theorem dX1_passNight_66 : decode cX1_passNight 66 = .ok (.isub, 1) := by decide +kernel
theorem dX1_passNight_67 : decode cX1_passNight 67 = .ok (.invokestatic 77, 3) := by decide +kernel
theorem dX1_passNight_70 : decode cX1_passNight 70 = .ok (.iastore, 1) := by decide +kernel
theorem dX1_passNight_71 : decode cX1_passNight 71 = .ok (.iinc 1 1, 3) := by decide +kernel
theorem dX1_passNight_74 : decode cX1_passNight 74 = .ok (.goto (-27), 3) := by decide +kernel
theorem dX1_passNight_77 : decode cX1_passNight 77 = .ok (.aload_n 0, 1) := by decide +kernel
theorem dX1_passNight_78 : decode cX1_passNight 78 = .ok (.dup, 1) := by decide +kernel
theorem dX1_passNight_79 : decode cX1_passNight 79 = .ok (.getfield 44, 3) := by decide +kernel
theorem dX1_passNight_82 : decode cX1_passNight 82 = .ok (.iconst 1, 1) := by decide +kernel
theorem dX1_passNight_83 : decode cX1_passNight 83 = .ok (.iadd, 1) := by decide +kernel
theorem dX1_passNight_84 : decode cX1_passNight 84 = .ok (.putfield 44, 3) := by decide +kernel
theorem dX1_passNight_87 : decode cX1_passNight 87 = .ok (.iconst 0, 1) := by decide +kernel
theorem dX1_passNight_88 : decode cX1_passNight 88 = .ok (.ireturn, 1) := by decide +kernel
theorem dX1_fly_0 : decode cX1_fly 0 = .ok (.iconst 0, 1) := by decide +kernel
theorem dX1_fly_1 : decode cX1_fly 1 = .ok (.istore_n 2, 1) := by decide +kernel
theorem dX1_fly_2 : decode cX1_fly 2 = .ok (.iload_n 2, 1) := by decide +kernel
theorem dX1_fly_3 : decode cX1_fly 3 = .ok (.iconst 4, 1) := by decide +kernel
theorem dX1_fly_4 : decode cX1_fly 4 = .ok (.if_icmp .ge 72, 3) := by decide +kernel
theorem dX1_fly_7 : decode cX1_fly 7 = .ok (.aload_n 0, 1) := by decide +kernel
theorem dX1_fly_8 : decode cX1_fly 8 = .ok (.getfield 25, 3) := by decide +kernel
theorem dX1_fly_11 : decode cX1_fly 11 = .ok (.iload_n 1, 1) := by decide +kernel
theorem dX1_fly_12 : decode cX1_fly 12 = .ok (.iaload, 1) := by decide +kernel
theorem dX1_fly_13 : decode cX1_fly 13 = .ok (.iload_n 2, 1) := by decide +kernel
theorem dX1_fly_14 : decode cX1_fly 14 = .ok (.iadd, 1) := by decide +kernel
theorem dX1_fly_15 : decode cX1_fly 15 = .ok (.iconst 4, 1) := by decide +kernel
theorem dX1_fly_16 : decode cX1_fly 16 = .ok (.irem, 1) := by decide +kernel
theorem dX1_fly_17 : decode cX1_fly 17 = .ok (.istore_n 3, 1) := by decide +kernel
theorem dX1_fly_18 : decode cX1_fly 18 = .ok (.aload_n 0, 1) := by decide +kernel
theorem dX1_fly_19 : decode cX1_fly 19 = .ok (.getfield 22, 3) := by decide +kernel
theorem dX1_fly_22 : decode cX1_fly 22 = .ok (.iload_n 1, 1) := by decide +kernel
theorem dX1_fly_23 : decode cX1_fly 23 = .ok (.iaload, 1) := by decide +kernel
theorem dX1_fly_24 : decode cX1_fly 24 = .ok (.iload_n 3, 1) := by decide +kernel
theorem dX1_fly_25 : decode cX1_fly 25 = .ok (.invokestatic 56, 3) := by decide +kernel
theorem dX1_fly_28 : decode cX1_fly 28 = .ok (.istore 4, 2) := by decide +kernel
theorem dX1_fly_30 : decode cX1_fly 30 = .ok (.iload 4, 2) := by decide +kernel
theorem dX1_fly_32 : decode cX1_fly 32 = .ok (.invokestatic 60, 3) := by decide +kernel
theorem dX1_fly_35 : decode cX1_fly 35 = .ok (.ifCond .eq 35, 3) := by decide +kernel
theorem dX1_fly_38 : decode cX1_fly 38 = .ok (.aload_n 0, 1) := by decide +kernel
theorem dX1_fly_39 : decode cX1_fly 39 = .ok (.getfield 15, 3) := by decide +kernel
theorem dX1_fly_42 : decode cX1_fly 42 = .ok (.iload 4, 2) := by decide +kernel
theorem dX1_fly_44 : decode cX1_fly 44 = .ok (.iaload, 1) := by decide +kernel
theorem dX1_fly_45 : decode cX1_fly 45 = .ok (.ifCond .ne 25, 3) := by decide +kernel
theorem dX1_fly_48 : decode cX1_fly 48 = .ok (.aload_n 0, 1) := by decide +kernel
theorem dX1_fly_49 : decode cX1_fly 49 = .ok (.getfield 25, 3) := by decide +kernel
theorem dX1_fly_52 : decode cX1_fly 52 = .ok (.iload_n 1, 1) := by decide +kernel
theorem dX1_fly_53 : decode cX1_fly 53 = .ok (.iload_n 3, 1) := by decide +kernel
theorem dX1_fly_54 : decode cX1_fly 54 = .ok (.iastore, 1) := by decide +kernel
theorem dX1_fly_55 : decode cX1_fly 55 = .ok (.aload_n 0, 1) := by decide +kernel
theorem dX1_fly_56 : decode cX1_fly 56 = .ok (.getfield 22, 3) := by decide +kernel
theorem dX1_fly_59 : decode cX1_fly 59 = .ok (.iload_n 1, 1) := by decide +kernel
theorem dX1_fly_60 : decode cX1_fly 60 = .ok (.iload 4, 2) := by decide +kernel
theorem dX1_fly_62 : decode cX1_fly 62 = .ok (.iastore, 1) := by decide +kernel
theorem dX1_fly_63 : decode cX1_fly 63 = .ok (.aload_n 0, 1) := by decide +kernel
theorem dX1_fly_64 : decode cX1_fly 64 = .ok (.iload 4, 2) := by decide +kernel
theorem dX1_fly_66 : decode cX1_fly 66 = .ok (.invokevirtual 82, 3) := by decide +kernel
theorem dX1_fly_69 : decode cX1_fly 69 = .ok (.return_, 1) := by decide +kernel
theorem dX1_fly_70 : decode cX1_fly 70 = .ok (.iinc 2 1, 3) := by decide +kernel
theorem dX1_fly_73 : decode cX1_fly 73 = .ok (.goto (-71), 3) := by decide +kernel
theorem dX1_fly_76 : decode cX1_fly 76 = .ok (.return_, 1) := by decide +kernel
theorem dX1_eat_0 : decode cX1_eat 0 = .ok (.aload_n 0, 1) := by decide +kernel
theorem dX1_eat_1 : decode cX1_eat 1 = .ok (.getfield 9, 3) := by decide +kernel
theorem dX1_eat_4 : decode cX1_eat 4 = .ok (.iload_n 1, 1) := by decide +kernel
theorem dX1_eat_5 : decode cX1_eat 5 = .ok (.iaload, 1) := by decide +kernel
theorem dX1_eat_6 : decode cX1_eat 6 = .ok (.iconst 4, 1) := by decide +kernel
theorem dX1_eat_7 : decode cX1_eat 7 = .ok (.if_icmp .ne 17, 3) := by decide +kernel
theorem dX1_eat_10 : decode cX1_eat 10 = .ok (.aload_n 0, 1) := by decide +kernel
theorem dX1_eat_11 : decode cX1_eat 11 = .ok (.getfield 37, 3) := by decide +kernel
theorem dX1_eat_14 : decode cX1_eat 14 = .ok (.bipush (-6), 2) := by decide +kernel
theorem dX1_eat_16 : decode cX1_eat 16 = .ok (.if_icmp .ne 8, 3) := by decide +kernel
theorem dX1_eat_19 : decode cX1_eat 19 = .ok (.aload_n 0, 1) := by decide +kernel
theorem dX1_eat_20 : decode cX1_eat 20 = .ok (.iload_n 1, 1) := by decide +kernel
theorem dX1_eat_21 : decode cX1_eat 21 = .ok (.putfield 37, 3) := by decide +kernel
theorem dX1_eat_24 : decode cX1_eat 24 = .ok (.aload_n 0, 1) := by decide +kernel
theorem dX1_eat_25 : decode cX1_eat 25 = .ok (.getfield 9, 3) := by decide +kernel
theorem dX1_eat_28 : decode cX1_eat 28 = .ok (.iload_n 1, 1) := by decide +kernel
theorem dX1_eat_29 : decode cX1_eat 29 = .ok (.iconst 0, 1) := by decide +kernel
theorem dX1_eat_30 : decode cX1_eat 30 = .ok (.iastore, 1) := by decide +kernel
theorem dX1_eat_31 : decode cX1_eat 31 = .ok (.return_, 1) := by decide +kernel
theorem dX1_draw_0 : decode cX1_draw 0 = .ok (.iload_n 1, 1) := by decide +kernel
theorem dX1_draw_1 : decode cX1_draw 1 = .ok (.tableswitch 79 0 3 #[31, 47, 59, 59], 31) := by decide +kernel
theorem dX1_draw_32 : decode cX1_draw 32 = .ok (.aload_n 0, 1) := by decide +kernel
theorem dX1_draw_33 : decode cX1_draw 33 = .ok (.iload_n 2, 1) := by decide +kernel
theorem dX1_draw_34 : decode cX1_draw 34 = .ok (.iconst 4, 1) := by decide +kernel
theorem dX1_draw_35 : decode cX1_draw 35 = .ok (.irem, 1) := by decide +kernel
theorem dX1_draw_36 : decode cX1_draw 36 = .ok (.iload_n 2, 1) := by decide +kernel
theorem dX1_draw_37 : decode cX1_draw 37 = .ok (.iconst 4, 1) := by decide +kernel
theorem dX1_draw_38 : decode cX1_draw 38 = .ok (.idiv, 1) := by decide +kernel
theorem dX1_draw_39 : decode cX1_draw 39 = .ok (.iconst 4, 1) := by decide +kernel
theorem dX1_draw_40 : decode cX1_draw 40 = .ok (.irem, 1) := by decide +kernel
theorem dX1_draw_41 : decode cX1_draw 41 = .ok (.invokevirtual 85, 3) := by decide +kernel
theorem dX1_draw_44 : decode cX1_draw 44 = .ok (.pop, 1) := by decide +kernel
theorem dX1_draw_45 : decode cX1_draw 45 = .ok (.goto 40, 3) := by decide +kernel
theorem dX1_draw_48 : decode cX1_draw 48 = .ok (.aload_n 0, 1) := by decide +kernel
theorem dX1_draw_49 : decode cX1_draw 49 = .ok (.iload_n 2, 1) := by decide +kernel
theorem dX1_draw_50 : decode cX1_draw 50 = .ok (.bipush 25, 2) := by decide +kernel
theorem dX1_draw_52 : decode cX1_draw 52 = .ok (.irem, 1) := by decide +kernel
theorem dX1_draw_53 : decode cX1_draw 53 = .ok (.invokevirtual 88, 3) := by decide +kernel
theorem dX1_draw_56 : decode cX1_draw 56 = .ok (.pop, 1) := by decide +kernel
theorem dX1_draw_57 : decode cX1_draw 57 = .ok (.goto 28, 3) := by decide +kernel
theorem dX1_draw_60 : decode cX1_draw 60 = .ok (.aload_n 0, 1) := by decide +kernel
theorem dX1_draw_61 : decode cX1_draw 61 = .ok (.iload_n 2, 1) := by decide +kernel
theorem dX1_draw_62 : decode cX1_draw 62 = .ok (.bipush 25, 2) := by decide +kernel
theorem dX1_draw_64 : decode cX1_draw 64 = .ok (.irem, 1) := by decide +kernel
theorem dX1_draw_65 : decode cX1_draw 65 = .ok (.iconst 1, 1) := by decide +kernel
theorem dX1_draw_66 : decode cX1_draw 66 = .ok (.iload_n 2, 1) := by decide +kernel
theorem dX1_draw_67 : decode cX1_draw 67 = .ok (.bipush 25, 2) := by decide +kernel
theorem dX1_draw_69 : decode cX1_draw 69 = .ok (.idiv, 1) := by decide +kernel
theorem dX1_draw_70 : decode cX1_draw 70 = .ok (.iconst 3, 1) := by decide +kernel
theorem dX1_draw_71 : decode cX1_draw 71 = .ok (.irem, 1) := by decide +kernel
theorem dX1_draw_72 : decode cX1_draw 72 = .ok (.iadd, 1) := by decide +kernel
theorem dX1_draw_73 : decode cX1_draw 73 = .ok (.invokevirtual 91, 3) := by decide +kernel
theorem dX1_draw_76 : decode cX1_draw 76 = .ok (.pop, 1) := by decide +kernel
theorem dX1_draw_77 : decode cX1_draw 77 = .ok (.goto 8, 3) := by decide +kernel
theorem dX1_draw_80 : decode cX1_draw 80 = .ok (.aload_n 0, 1) := by decide +kernel
theorem dX1_draw_81 : decode cX1_draw 81 = .ok (.invokevirtual 94, 3) := by decide +kernel
theorem dX1_draw_84 : decode cX1_draw 84 = .ok (.pop, 1) := by decide +kernel
theorem dX1_draw_85 : decode cX1_draw 85 = .ok (.return_, 1) := by decide +kernel
theorem dX2_init_0 : decode cX2_init 0 = .ok (.aload_n 0, 1) := by decide +kernel
theorem dX2_init_1 : decode cX2_init 1 = .ok (.invokespecial 3, 3) := by decide +kernel
theorem dX2_init_4 : decode cX2_init 4 = .ok (.aload_n 0, 1) := by decide +kernel
theorem dX2_init_5 : decode cX2_init 5 = .ok (.bipush 10, 2) := by decide +kernel
theorem dX2_init_7 : decode cX2_init 7 = .ok (.newarray .long, 2) := by decide +kernel
theorem dX2_init_9 : decode cX2_init 9 = .ok (.putfield 9, 3) := by decide +kernel
theorem dX2_init_12 : decode cX2_init 12 = .ok (.aload_n 0, 1) := by decide +kernel
theorem dX2_init_13 : decode cX2_init 13 = .ok (.bipush 10, 2) := by decide +kernel
theorem dX2_init_15 : decode cX2_init 15 = .ok (.newarray .long, 2) := by decide +kernel
theorem dX2_init_17 : decode cX2_init 17 = .ok (.putfield 15, 3) := by decide +kernel
theorem dX2_init_20 : decode cX2_init 20 = .ok (.return_, 1) := by decide +kernel
theorem dX2_pour_0 : decode cX2_pour 0 = .ok (.iconst 0, 1) := by decide +kernel
theorem dX2_pour_1 : decode cX2_pour 1 = .ok (.istore_n 2, 1) := by decide +kernel
theorem dX2_pour_2 : decode cX2_pour 2 = .ok (.iload_n 2, 1) := by decide +kernel
theorem dX2_pour_3 : decode cX2_pour 3 = .ok (.bipush 9, 2) := by decide +kernel
theorem dX2_pour_5 : decode cX2_pour 5 = .ok (.if_icmp .gt 25, 3) := by decide +kernel
theorem dX2_pour_8 : decode cX2_pour 8 = .ok (.aload_n 0, 1) := by decide +kernel
theorem dX2_pour_9 : decode cX2_pour 9 = .ok (.getfield 9, 3) := by decide +kernel
theorem dX2_pour_12 : decode cX2_pour 12 = .ok (.iload_n 2, 1) := by decide +kernel
theorem dX2_pour_13 : decode cX2_pour 13 = .ok (.iload_n 2, 1) := by decide +kernel
theorem dX2_pour_14 : decode cX2_pour 14 = .ok (.iload_n 1, 1) := by decide +kernel
theorem dX2_pour_15 : decode cX2_pour 15 = .ok (.if_icmp .ne 7, 3) := by decide +kernel
theorem dX2_pour_18 : decode cX2_pour 18 = .ok (.lconst 1, 1) := by decide +kernel
theorem dX2_pour_19 : decode cX2_pour 19 = .ok (.goto 4, 3) := by decide +kernel
theorem dX2_pour_22 : decode cX2_pour 22 = .ok (.lconst 0, 1) := by decide +kernel
theorem dX2_pour_23 : decode cX2_pour 23 = .ok (.lastore, 1) := by decide +kernel
theorem dX2_pour_24 : decode cX2_pour 24 = .ok (.iinc 2 1, 3) := by decide +kernel
theorem dX2_pour_27 : decode cX2_pour 27 = .ok (.goto (-25), 3) := by decide +kernel
theorem dX2_pour_30 : decode cX2_pour 30 = .ok (.aload_n 0, 1) := by decide +kernel
theorem dX2_pour_31 : decode cX2_pour 31 = .ok (.lconst 1, 1) := by decide +kernel
theorem dX2_pour_32 : decode cX2_pour 32 = .ok (.putfield 18, 3) := by decide +kernel
theorem dX2_pour_35 : decode cX2_pour 35 = .ok (.return_, 1) := by decide +kernel
theorem dX2_move_0 : decode cX2_move 0 = .ok (.iconst 0, 1) := by decide +kernel
theorem dX2_move_1 : decode cX2_move 1 = .ok (.istore 4, 2) := by decide +kernel
theorem dX2_move_3 : decode cX2_move 3 = .ok (.iload 4, 2) := by decide +kernel
theorem dX2_move_5 : decode cX2_move 5 = .ok (.bipush 9, 2) := by decide +kernel
theorem dX2_move_7 : decode cX2_move 7 = .ok (.if_icmp .gt 17, 3) := by decide +kernel
theorem dX2_move_10 : decode cX2_move 10 = .ok (.aload_n 0, 1) := by decide +kernel
theorem dX2_move_11 : decode cX2_move 11 = .ok (.getfield 15, 3) := by decide +kernel
theorem dX2_move_14 : decode cX2_move 14 = .ok (.iload 4, 2) := by decide +kernel
theorem dX2_move_16 : decode cX2_move 16 = .ok (.lconst 0, 1) := by decide +kernel
theorem dX2_move_17 : decode cX2_move 17 = .ok (.lastore, 1) := by decide +kernel
theorem dX2_move_18 : decode cX2_move 18 = .ok (.iinc 4 1, 3) := by decide +kernel
theorem dX2_move_21 : decode cX2_move 21 = .ok (.goto (-18), 3) := by decide +kernel
theorem dX2_move_24 : decode cX2_move 24 = .ok (.iconst 0, 1) := by decide +kernel
theorem dX2_move_25 : decode cX2_move 25 = .ok (.istore 4, 2) := by decide +kernel
theorem dX2_move_27 : decode cX2_move 27 = .ok (.iload 4, 2) := by decide +kernel
theorem dX2_move_29 : decode cX2_move 29 = .ok (.iload_n 1, 1) := by decide +kernel
theorem dX2_move_30 : decode cX2_move 30 = .ok (.if_icmp .gt 93, 3) := by decide +kernel
theorem dX2_move_33 : decode cX2_move 33 = .ok (.iload 4, 2) := by decide +kernel
theorem dX2_move_35 : decode cX2_move 35 = .ok (.bipush 9, 2) := by decide +kernel
theorem dX2_move_37 : decode cX2_move 37 = .ok (.if_icmp .gt 86, 3) := by decide +kernel
theorem dX2_move_40 : decode cX2_move 40 = .ok (.aload_n 0, 1) := by decide +kernel
theorem dX2_move_41 : decode cX2_move 41 = .ok (.getfield 15, 3) := by decide +kernel
theorem dX2_move_44 : decode cX2_move 44 = .ok (.iload 4, 2) := by decide +kernel
theorem dX2_move_46 : decode cX2_move 46 = .ok (.iconst 1, 1) := by decide +kernel
theorem dX2_move_47 : decode cX2_move 47 = .ok (.iadd, 1) := by decide +kernel
theorem dX2_move_48 : decode cX2_move 48 = .ok (.iload_n 1, 1) := by decide +kernel
theorem dX2_move_49 : decode cX2_move 49 = .ok (.invokestatic 22, 3) := by decide +kernel
theorem dX2_move_52 : decode cX2_move 52 = .ok (.dup2, 1) := by decide +kernel
theorem dX2_move_53 : decode cX2_move 53 = .ok (.laload, 1) := by decide +kernel
theorem dX2_move_54 : decode cX2_move 54 = .ok (.iload_n 2, 1) := by decide +kernel
theorem dX2_move_55 : decode cX2_move 55 = .ok (.i2l, 1) := by decide +kernel
theorem dX2_move_56 : decode cX2_move 56 = .ok (.aload_n 0, 1) := by decide +kernel
theorem dX2_move_57 : decode cX2_move 57 = .ok (.getfield 9, 3) := by decide +kernel
theorem dX2_move_60 : decode cX2_move 60 = .ok (.iload 4, 2) := by decide +kernel
theorem dX2_move_62 : decode cX2_move 62 = .ok (.laload, 1) := by decide +kernel
theorem dX2_move_63 : decode cX2_move 63 = .ok (.lmul, 1) := by decide +kernel
theorem dX2_move_64 : decode cX2_move 64 = .ok (.ladd, 1) := by decide +kernel
theorem dX2_move_65 : decode cX2_move 65 = .ok (.lastore, 1) := by decide +kernel
theorem dX2_move_66 : decode cX2_move 66 = .ok (.aload_n 0, 1) := by decide +kernel
theorem dX2_move_67 : decode cX2_move 67 = .ok (.getfield 15, 3) := by decide +kernel
theorem dX2_move_70 : decode cX2_move 70 = .ok (.iload 4, 2) := by decide +kernel
theorem dX2_move_72 : decode cX2_move 72 = .ok (.iconst 1, 1) := by decide +kernel
theorem dX2_move_73 : decode cX2_move 73 = .ok (.isub, 1) := by decide +kernel
theorem dX2_move_74 : decode cX2_move 74 = .ok (.iconst 0, 1) := by decide +kernel
theorem dX2_move_75 : decode cX2_move 75 = .ok (.invokestatic 28, 3) := by decide +kernel
theorem dX2_move_78 : decode cX2_move 78 = .ok (.dup2, 1) := by decide +kernel
theorem dX2_move_79 : decode cX2_move 79 = .ok (.laload, 1) := by decide +kernel
theorem dX2_move_80 : decode cX2_move 80 = .ok (.iload_n 3, 1) := by decide +kernel
theorem dX2_move_81 : decode cX2_move 81 = .ok (.i2l, 1) := by decide +kernel
theorem dX2_move_82 : decode cX2_move 82 = .ok (.aload_n 0, 1) := by decide +kernel
theorem dX2_move_83 : decode cX2_move 83 = .ok (.getfield 9, 3) := by decide +kernel
theorem dX2_move_86 : decode cX2_move 86 = .ok (.iload 4, 2) := by decide +kernel
theorem dX2_move_88 : decode cX2_move 88 = .ok (.laload, 1) := by decide +kernel
theorem dX2_move_89 : decode cX2_move 89 = .ok (.lmul, 1) := by decide +kernel
theorem dX2_move_90 : decode cX2_move 90 = .ok (.ladd, 1) := by decide +kernel
theorem dX2_move_91 : decode cX2_move 91 = .ok (.lastore, 1) := by decide +kernel
theorem dX2_move_92 : decode cX2_move 92 = .ok (.aload_n 0, 1) := by decide +kernel
theorem dX2_move_93 : decode cX2_move 93 = .ok (.getfield 15, 3) := by decide +kernel
theorem dX2_move_96 : decode cX2_move 96 = .ok (.iload 4, 2) := by decide +kernel
theorem dX2_move_98 : decode cX2_move 98 = .ok (.dup2, 1) := by decide +kernel
theorem dX2_move_99 : decode cX2_move 99 = .ok (.laload, 1) := by decide +kernel
theorem dX2_move_100 : decode cX2_move 100 = .ok (.bipush 10, 2) := by decide +kernel
theorem dX2_move_102 : decode cX2_move 102 = .ok (.iload_n 2, 1) := by decide +kernel
theorem dX2_move_103 : decode cX2_move 103 = .ok (.isub, 1) := by decide +kernel
theorem dX2_move_104 : decode cX2_move 104 = .ok (.iload_n 3, 1) := by decide +kernel
theorem dX2_move_105 : decode cX2_move 105 = .ok (.isub, 1) := by decide +kernel
theorem dX2_move_106 : decode cX2_move 106 = .ok (.i2l, 1) := by decide +kernel
theorem dX2_move_107 : decode cX2_move 107 = .ok (.aload_n 0, 1) := by decide +kernel
theorem dX2_move_108 : decode cX2_move 108 = .ok (.getfield 9, 3) := by decide +kernel
theorem dX2_move_111 : decode cX2_move 111 = .ok (.iload 4, 2) := by decide +kernel
theorem dX2_move_113 : decode cX2_move 113 = .ok (.laload, 1) := by decide +kernel
theorem dX2_move_114 : decode cX2_move 114 = .ok (.lmul, 1) := by decide +kernel
theorem dX2_move_115 : decode cX2_move 115 = .ok (.ladd, 1) := by decide +kernel
theorem dX2_move_116 : decode cX2_move 116 = .ok (.lastore, 1) := by decide +kernel
theorem dX2_move_117 : decode cX2_move 117 = .ok (.iinc 4 1, 3) := by decide +kernel
theorem dX2_move_120 : decode cX2_move 120 = .ok (.goto (-93), 3) := by decide +kernel
theorem dX2_move_123 : decode cX2_move 123 = .ok (.iconst 0, 1) := by decide +kernel
theorem dX2_move_124 : decode cX2_move 124 = .ok (.istore 4, 2) := by decide +kernel
theorem dX2_move_126 : decode cX2_move 126 = .ok (.iload 4, 2) := by decide +kernel
theorem dX2_move_128 : decode cX2_move 128 = .ok (.bipush 9, 2) := by decide +kernel
theorem dX2_move_130 : decode cX2_move 130 = .ok (.if_icmp .gt 23, 3) := by decide +kernel
theorem dX2_move_133 : decode cX2_move 133 = .ok (.aload_n 0, 1) := by decide +kernel
theorem dX2_move_134 : decode cX2_move 134 = .ok (.getfield 9, 3) := by decide +kernel
theorem dX2_move_137 : decode cX2_move 137 = .ok (.iload 4, 2) := by decide +kernel
theorem dX2_move_139 : decode cX2_move 139 = .ok (.aload_n 0, 1) := by decide +kernel
theorem dX2_move_140 : decode cX2_move 140 = .ok (.getfield 15, 3) := by decide +kernel
theorem dX2_move_143 : decode cX2_move 143 = .ok (.iload 4, 2) := by decide +kernel
theorem dX2_move_145 : decode cX2_move 145 = .ok (.laload, 1) := by decide +kernel
theorem dX2_move_146 : decode cX2_move 146 = .ok (.lastore, 1) := by decide +kernel
theorem dX2_move_147 : decode cX2_move 147 = .ok (.iinc 4 1, 3) := by decide +kernel
theorem dX2_move_150 : decode cX2_move 150 = .ok (.goto (-24), 3) := by decide +kernel
theorem dX2_move_153 : decode cX2_move 153 = .ok (.aload_n 0, 1) := by decide +kernel
theorem dX2_move_154 : decode cX2_move 154 = .ok (.dup, 1) := by decide +kernel
theorem dX2_move_155 : decode cX2_move 155 = .ok (.getfield 18, 3) := by decide +kernel
theorem dX2_move_158 : decode cX2_move 158 = .ok (.ldc2_w 31, 3) := by decide +kernel
theorem dX2_move_161 : decode cX2_move 161 = .ok (.lmul, 1) := by decide +kernel
theorem dX2_move_162 : decode cX2_move 162 = .ok (.putfield 18, 3) := by decide +kernel
theorem dX2_move_165 : decode cX2_move 165 = .ok (.return_, 1) := by decide +kernel
theorem dX2_share_0 : decode cX2_share 0 = .ok (.iload_n 1, 1) := by decide +kernel
theorem dX2_share_1 : decode cX2_share 1 = .ok (.ifCond .lt 18, 3) := by decide +kernel
theorem dX2_share_4 : decode cX2_share 4 = .ok (.iload_n 1, 1) := by decide +kernel
theorem dX2_share_5 : decode cX2_share 5 = .ok (.bipush 9, 2) := by decide +kernel
theorem dX2_share_7 : decode cX2_share 7 = .ok (.if_icmp .gt 12, 3) := by decide +kernel
theorem dX2_share_10 : decode cX2_share 10 = .ok (.aload_n 0, 1) := by decide +kernel
theorem dX2_share_11 : decode cX2_share 11 = .ok (.getfield 9, 3) := by decide +kernel
theorem dX2_share_14 : decode cX2_share 14 = .ok (.iload_n 1, 1) := by decide +kernel
theorem dX2_share_15 : decode cX2_share 15 = .ok (.laload, 1) := by decide +kernel
theorem dX2_share_16 : decode cX2_share 16 = .ok (.goto 4, 3) := by decide +kernel
theorem dX2_share_19 : decode cX2_share 19 = .ok (.lconst 0, 1) := by decide +kernel
theorem dX2_share_20 : decode cX2_share 20 = .ok (.lreturn, 1) := by decide +kernel
theorem dX3_init_0 : decode cX3_init 0 = .ok (.aload_n 0, 1) := by decide +kernel
theorem dX3_init_1 : decode cX3_init 1 = .ok (.invokespecial 3, 3) := by decide +kernel
theorem dX3_init_4 : decode cX3_init 4 = .ok (.aload_n 0, 1) := by decide +kernel
theorem dX3_init_5 : decode cX3_init 5 = .ok (.bipush 26, 2) := by decide +kernel
theorem dX3_init_7 : decode cX3_init 7 = .ok (.newarray .int, 2) := by decide +kernel
theorem dX3_init_9 : decode cX3_init 9 = .ok (.putfield 9, 3) := by decide +kernel
theorem dX3_init_12 : decode cX3_init 12 = .ok (.return_, 1) := by decide +kernel
theorem dX3_leastCells_0 : decode cX3_leastCells 0 = .ok (.aload_n 0, 1) := by decide +kernel
theorem dX3_leastCells_1 : decode cX3_leastCells 1 = .ok (.iload_n 1, 1) := by decide +kernel
theorem dX3_leastCells_2 : decode cX3_leastCells 2 = .ok (.putfield 15, 3) := by decide +kernel
theorem dX3_leastCells_5 : decode cX3_leastCells 5 = .ok (.aload_n 0, 1) := by decide +kernel
theorem dX3_leastCells_6 : decode cX3_leastCells 6 = .ok (.iload_n 2, 1) := by decide +kernel
theorem dX3_leastCells_7 : decode cX3_leastCells 7 = .ok (.putfield 19, 3) := by decide +kernel
theorem dX3_leastCells_10 : decode cX3_leastCells 10 = .ok (.aload_n 0, 1) := by decide +kernel
theorem dX3_leastCells_11 : decode cX3_leastCells 11 = .ok (.getfield 15, 3) := by decide +kernel
theorem dX3_leastCells_14 : decode cX3_leastCells 14 = .ok (.aload_n 0, 1) := by decide +kernel
theorem dX3_leastCells_15 : decode cX3_leastCells 15 = .ok (.getfield 19, 3) := by decide +kernel
theorem dX3_leastCells_18 : decode cX3_leastCells 18 = .ok (.aload_n 0, 1) := by decide +kernel
theorem dX3_leastCells_19 : decode cX3_leastCells 19 = .ok (.getfield 19, 3) := by decide +kernel
theorem dX3_leastCells_22 : decode cX3_leastCells 22 = .ok (.invokestatic 22, 3) := by decide +kernel
theorem dX3_leastCells_25 : decode cX3_leastCells 25 = .ok (.ior, 1) := by decide +kernel
theorem dX3_leastCells_26 : decode cX3_leastCells 26 = .ok (.iand, 1) := by decide +kernel
theorem dX3_leastCells_27 : decode cX3_leastCells 27 = .ok (.ifCond .eq 6, 3) := by decide +kernel
theorem dX3_leastCells_30 : decode cX3_leastCells 30 = .ok (.bipush (-6), 2) := by decide +kernel
theorem dX3_leastCells_32 : decode cX3_leastCells 32 = .ok (.ireturn, 1) := by decide +kernel
theorem dX3_leastCells_33 : decode cX3_leastCells 33 = .ok (.aload_n 0, 1) := by decide +kernel
theorem dX3_leastCells_34 : decode cX3_leastCells 34 = .ok (.bipush (-6), 2) := by decide +kernel
theorem dX3_leastCells_36 : decode cX3_leastCells 36 = .ok (.putfield 26, 3) := by decide +kernel
theorem dX3_leastCells_39 : decode cX3_leastCells 39 = .ok (.iconst 0, 1) := by decide +kernel
theorem dX3_leastCells_40 : decode cX3_leastCells 40 = .ok (.istore_n 3, 1) := by decide +kernel
theorem dX3_leastCells_41 : decode cX3_leastCells 41 = .ok (.iload_n 3, 1) := by decide +kernel
theorem dX3_leastCells_42 : decode cX3_leastCells 42 = .ok (.iconst 4, 1) := by decide +kernel
theorem dX3_leastCells_43 : decode cX3_leastCells 43 = .ok (.if_icmp .gt 25, 3) := by decide +kernel
theorem dX3_leastCells_46 : decode cX3_leastCells 46 = .ok (.aload_n 0, 1) := by decide +kernel
theorem dX3_leastCells_47 : decode cX3_leastCells 47 = .ok (.getfield 26, 3) := by decide +kernel
theorem dX3_leastCells_50 : decode cX3_leastCells 50 = .ok (.bipush (-6), 2) := by decide +kernel
theorem dX3_leastCells_52 : decode cX3_leastCells 52 = .ok (.if_icmp .ne 16, 3) := by decide +kernel
theorem dX3_leastCells_55 : decode cX3_leastCells 55 = .ok (.aload_n 0, 1) := by decide +kernel
theorem dX3_leastCells_56 : decode cX3_leastCells 56 = .ok (.iconst 0, 1) := by decide +kernel
theorem dX3_leastCells_57 : decode cX3_leastCells 57 = .ok (.iconst 0, 1) := by decide +kernel
theorem dX3_leastCells_58 : decode cX3_leastCells 58 = .ok (.iload_n 3, 1) := by decide +kernel
theorem dX3_leastCells_59 : decode cX3_leastCells 59 = .ok (.invokevirtual 29, 3) := by decide +kernel
theorem dX3_leastCells_62 : decode cX3_leastCells 62 = .ok (.iinc 3 1, 3) := by decide +kernel
theorem dX3_leastCells_65 : decode cX3_leastCells 65 = .ok (.goto (-24), 3) := by decide +kernel
theorem dX3_leastCells_68 : decode cX3_leastCells 68 = .ok (.aload_n 0, 1) := by decide +kernel
theorem dX3_leastCells_69 : decode cX3_leastCells 69 = .ok (.getfield 26, 3) := by decide +kernel
theorem dX3_leastCells_72 : decode cX3_leastCells 72 = .ok (.ireturn, 1) := by decide +kernel
theorem dX3_search_0 : decode cX3_search 0 = .ok (.aload_n 0, 1) := by decide +kernel
theorem dX3_search_1 : decode cX3_search 1 = .ok (.iload_n 1, 1) := by decide +kernel
theorem dX3_search_2 : decode cX3_search 2 = .ok (.invokevirtual 33, 3) := by decide +kernel
theorem dX3_search_5 : decode cX3_search 5 = .ok (.istore 4, 2) := by decide +kernel
theorem dX3_search_7 : decode cX3_search 7 = .ok (.iload 4, 2) := by decide +kernel
theorem dX3_search_9 : decode cX3_search 9 = .ok (.ifCond .ne 29, 3) := by decide +kernel
theorem dX3_search_12 : decode cX3_search 12 = .ok (.aload_n 0, 1) := by decide +kernel
theorem dX3_search_13 : decode cX3_search 13 = .ok (.aload_n 0, 1) := by decide +kernel
theorem dX3_search_14 : decode cX3_search 14 = .ok (.getfield 26, 3) := by decide +kernel
theorem dX3_search_17 : decode cX3_search 17 = .ok (.bipush (-6), 2) := by decide +kernel
theorem dX3_search_19 : decode cX3_search 19 = .ok (.if_icmp .ne 7, 3) := by decide +kernel
theorem dX3_search_22 : decode cX3_search 22 = .ok (.iload_n 1, 1) := by decide +kernel
theorem dX3_search_23 : decode cX3_search 23 = .ok (.goto 11, 3) := by decide +kernel
theorem dX3_search_26 : decode cX3_search 26 = .ok (.aload_n 0, 1) := by decide +kernel
theorem dX3_search_27 : decode cX3_search 27 = .ok (.getfield 26, 3) := by decide +kernel
theorem dX3_search_30 : decode cX3_search 30 = .ok (.iload_n 1, 1) := by decide +kernel
theorem dX3_search_31 : decode cX3_search 31 = .ok (.invokestatic 36, 3) := by decide +kernel
theorem dX3_search_34 : decode cX3_search 34 = .ok (.putfield 26, 3) := by decide +kernel
theorem dX3_search_37 : decode cX3_search 37 = .ok (.return_, 1) := by decide +kernel
theorem dX3_search_38 : decode cX3_search 38 = .ok (.iload_n 3, 1) := by decide +kernel
theorem dX3_search_39 : decode cX3_search 39 = .ok (.ifCond .gt 4, 3) := by decide +kernel
theorem dX3_search_42 : decode cX3_search 42 = .ok (.return_, 1) := by decide +kernel
theorem dX3_search_43 : decode cX3_search 43 = .ok (.iload_n 2, 1) := by decide +kernel
theorem dX3_search_44 : decode cX3_search 44 = .ok (.istore 5, 2) := by decide +kernel
theorem dX3_search_46 : decode cX3_search 46 = .ok (.iconst 0, 1) := by decide +kernel
theorem dX3_search_47 : decode cX3_search 47 = .ok (.istore 6, 2) := by decide +kernel
theorem dX3_search_49 : decode cX3_search 49 = .ok (.iload 6, 2) := by decide +kernel
theorem dX3_search_51 : decode cX3_search 51 = .ok (.bipush 25, 2) := by decide +kernel
theorem dX3_search_53 : decode cX3_search 53 = .ok (.if_icmp .ge 47, 3) := by decide +kernel
theorem dX3_search_56 : decode cX3_search 56 = .ok (.iconst 1, 1) := by decide +kernel
theorem dX3_search_57 : decode cX3_search 57 = .ok (.iload 6, 2) := by decide +kernel
theorem dX3_search_59 : decode cX3_search 59 = .ok (.ishl, 1) := by decide +kernel
theorem dX3_search_60 : decode cX3_search 60 = .ok (.istore 7, 2) := by decide +kernel
theorem dX3_search_62 : decode cX3_search 62 = .ok (.iload 4, 2) := by decide +kernel
theorem dX3_search_64 : decode cX3_search 64 = .ok (.iload_n 2, 1) := by decide +kernel
theorem dX3_search_65 : decode cX3_search 65 = .ok (.iconst (-1), 1) := by decide +kernel
theorem dX3_search_66 : decode cX3_search 66 = .ok (.ixor, 1) := by decide +kernel
theorem dX3_search_67 : decode cX3_search 67 = .ok (.iand, 1) := by decide +kernel
theorem dX3_search_68 : decode cX3_search 68 = .ok (.iload 7, 2) := by decide +kernel
theorem dX3_search_70 : decode cX3_search 70 = .ok (.iand, 1) := by decide +kernel
theorem dX3_search_71 : decode cX3_search 71 = .ok (.ifCond .eq 23, 3) := by decide +kernel
theorem dX3_search_74 : decode cX3_search 74 = .ok (.aload_n 0, 1) := by decide +kernel
theorem dX3_search_75 : decode cX3_search 75 = .ok (.iload_n 1, 1) := by decide +kernel
theorem dX3_search_76 : decode cX3_search 76 = .ok (.iload 7, 2) := by decide +kernel
theorem dX3_search_78 : decode cX3_search 78 = .ok (.ior, 1) := by decide +kernel
theorem dX3_search_79 : decode cX3_search 79 = .ok (.iload 5, 2) := by decide +kernel
theorem dX3_search_81 : decode cX3_search 81 = .ok (.iload_n 3, 1) := by decide +kernel
theorem dX3_search_82 : decode cX3_search 82 = .ok (.iconst 1, 1) := by decide +kernel
theorem dX3_search_83 : decode cX3_search 83 = .ok (.isub, 1) := by decide +kernel
theorem dX3_search_84 : decode cX3_search 84 = .ok (.invokevirtual 29, 3) := by decide +kernel
theorem dX3_search_87 : decode cX3_search 87 = .ok (.iload 5, 2) := by decide +kernel
theorem dX3_search_89 : decode cX3_search 89 = .ok (.iload 7, 2) := by decide +kernel
theorem dX3_search_91 : decode cX3_search 91 = .ok (.ior, 1) := by decide +kernel
theorem dX3_search_92 : decode cX3_search 92 = .ok (.istore 5, 2) := by decide +kernel
theorem dX3_search_94 : decode cX3_search 94 = .ok (.iinc 6 1, 3) := by decide +kernel
theorem dX3_search_97 : decode cX3_search 97 = .ok (.goto (-48), 3) := by decide +kernel
theorem dX3_search_100 : decode cX3_search 100 = .ok (.return_, 1) := by decide +kernel
theorem dX3_openWay_0 : decode cX3_openWay 0 = .ok (.aload_n 0, 1) := by decide +kernel
theorem dX3_openWay_1 : decode cX3_openWay 1 = .ok (.getfield 15, 3) := by decide +kernel
theorem dX3_openWay_4 : decode cX3_openWay 4 = .ok (.istore_n 2, 1) := by decide +kernel
theorem dX3_openWay_5 : decode cX3_openWay 5 = .ok (.aload_n 0, 1) := by decide +kernel
theorem dX3_openWay_6 : decode cX3_openWay 6 = .ok (.getfield 9, 3) := by decide +kernel
theorem dX3_openWay_9 : decode cX3_openWay 9 = .ok (.iconst 0, 1) := by decide +kernel
theorem dX3_openWay_10 : decode cX3_openWay 10 = .ok (.aload_n 0, 1) := by decide +kernel
theorem dX3_openWay_11 : decode cX3_openWay 11 = .ok (.getfield 15, 3) := by decide +kernel
theorem dX3_openWay_14 : decode cX3_openWay 14 = .ok (.iastore, 1) := by decide +kernel
theorem dX3_openWay_15 : decode cX3_openWay 15 = .ok (.iconst 1, 1) := by decide +kernel
theorem dX3_openWay_16 : decode cX3_openWay 16 = .ok (.istore_n 3, 1) := by decide +kernel
theorem dX3_openWay_17 : decode cX3_openWay 17 = .ok (.iload_n 3, 1) := by decide +kernel
theorem dX3_openWay_18 : decode cX3_openWay 18 = .ok (.bipush 25, 2) := by decide +kernel
theorem dX3_openWay_20 : decode cX3_openWay 20 = .ok (.if_icmp .gt 66, 3) := by decide +kernel
theorem dX3_openWay_23 : decode cX3_openWay 23 = .ok (.aload_n 0, 1) := by decide +kernel
theorem dX3_openWay_24 : decode cX3_openWay 24 = .ok (.getfield 9, 3) := by decide +kernel
theorem dX3_openWay_27 : decode cX3_openWay 27 = .ok (.iload_n 3, 1) := by decide +kernel
theorem dX3_openWay_28 : decode cX3_openWay 28 = .ok (.iconst 1, 1) := by decide +kernel
theorem dX3_openWay_29 : decode cX3_openWay 29 = .ok (.isub, 1) := by decide +kernel
theorem dX3_openWay_30 : decode cX3_openWay 30 = .ok (.iaload, 1) := by decide +kernel
theorem dX3_openWay_31 : decode cX3_openWay 31 = .ok (.invokestatic 22, 3) := by decide +kernel
theorem dX3_openWay_34 : decode cX3_openWay 34 = .ok (.iload_n 2, 1) := by decide +kernel
theorem dX3_openWay_35 : decode cX3_openWay 35 = .ok (.iconst (-1), 1) := by decide +kernel
theorem dX3_openWay_36 : decode cX3_openWay 36 = .ok (.ixor, 1) := by decide +kernel
theorem dX3_openWay_37 : decode cX3_openWay 37 = .ok (.iand, 1) := by decide +kernel
theorem dX3_openWay_38 : decode cX3_openWay 38 = .ok (.iload_n 1, 1) := by decide +kernel
theorem dX3_openWay_39 : decode cX3_openWay 39 = .ok (.iconst (-1), 1) := by decide +kernel
theorem dX3_openWay_40 : decode cX3_openWay 40 = .ok (.ixor, 1) := by decide +kernel
theorem dX3_openWay_41 : decode cX3_openWay 41 = .ok (.iand, 1) := by decide +kernel
theorem dX3_openWay_42 : decode cX3_openWay 42 = .ok (.istore 4, 2) := by decide +kernel
theorem dX3_openWay_44 : decode cX3_openWay 44 = .ok (.iload 4, 2) := by decide +kernel
theorem dX3_openWay_46 : decode cX3_openWay 46 = .ok (.ifCond .ne 5, 3) := by decide +kernel
theorem dX3_openWay_49 : decode cX3_openWay 49 = .ok (.iconst 0, 1) := by decide +kernel
theorem dX3_openWay_50 : decode cX3_openWay 50 = .ok (.ireturn, 1) := by decide +kernel
theorem dX3_openWay_51 : decode cX3_openWay 51 = .ok (.iload 4, 2) := by decide +kernel
theorem dX3_openWay_53 : decode cX3_openWay 53 = .ok (.aload_n 0, 1) := by decide +kernel
theorem dX3_openWay_54 : decode cX3_openWay 54 = .ok (.getfield 19, 3) := by decide +kernel
theorem dX3_openWay_57 : decode cX3_openWay 57 = .ok (.iand, 1) := by decide +kernel
theorem dX3_openWay_58 : decode cX3_openWay 58 = .ok (.ifCond .eq 9, 3) := by decide +kernel
theorem dX3_openWay_61 : decode cX3_openWay 61 = .ok (.aload_n 0, 1) := by decide +kernel
theorem dX3_openWay_62 : decode cX3_openWay 62 = .ok (.iload_n 3, 1) := by decide +kernel
theorem dX3_openWay_63 : decode cX3_openWay 63 = .ok (.invokevirtual 42, 3) := by decide +kernel
theorem dX3_openWay_66 : decode cX3_openWay 66 = .ok (.ireturn, 1) := by decide +kernel
theorem dX3_openWay_67 : decode cX3_openWay 67 = .ok (.aload_n 0, 1) := by decide +kernel
theorem dX3_openWay_68 : decode cX3_openWay 68 = .ok (.getfield 9, 3) := by decide +kernel
theorem dX3_openWay_71 : decode cX3_openWay 71 = .ok (.iload_n 3, 1) := by decide +kernel
theorem dX3_openWay_72 : decode cX3_openWay 72 = .ok (.iload 4, 2) := by decide +kernel
theorem dX3_openWay_74 : decode cX3_openWay 74 = .ok (.iastore, 1) := by decide +kernel
theorem dX3_openWay_75 : decode cX3_openWay 75 = .ok (.iload_n 2, 1) := by decide +kernel
theorem dX3_openWay_76 : decode cX3_openWay 76 = .ok (.iload 4, 2) := by decide +kernel
theorem dX3_openWay_78 : decode cX3_openWay 78 = .ok (.ior, 1) := by decide +kernel
theorem dX3_openWay_79 : decode cX3_openWay 79 = .ok (.istore_n 2, 1) := by decide +kernel
theorem dX3_openWay_80 : decode cX3_openWay 80 = .ok (.iinc 3 1, 3) := by decide +kernel
theorem dX3_openWay_83 : decode cX3_openWay 83 = .ok (.goto (-66), 3) := by decide +kernel
theorem dX3_openWay_86 : decode cX3_openWay 86 = .ok (.iconst 0, 1) := by decide +kernel
theorem dX3_openWay_87 : decode cX3_openWay 87 = .ok (.ireturn, 1) := by decide +kernel
theorem dX3_wayBack_0 : decode cX3_wayBack 0 = .ok (.iconst 0, 1) := by decide +kernel
theorem dX3_wayBack_1 : decode cX3_wayBack 1 = .ok (.istore_n 2, 1) := by decide +kernel
theorem dX3_wayBack_2 : decode cX3_wayBack 2 = .ok (.aload_n 0, 1) := by decide +kernel
theorem dX3_wayBack_3 : decode cX3_wayBack 3 = .ok (.getfield 19, 3) := by decide +kernel
theorem dX3_wayBack_6 : decode cX3_wayBack 6 = .ok (.istore_n 3, 1) := by decide +kernel
theorem dX3_wayBack_7 : decode cX3_wayBack 7 = .ok (.iload_n 1, 1) := by decide +kernel
theorem dX3_wayBack_8 : decode cX3_wayBack 8 = .ok (.iconst 1, 1) := by decide +kernel
theorem dX3_wayBack_9 : decode cX3_wayBack 9 = .ok (.isub, 1) := by decide +kernel
theorem dX3_wayBack_10 : decode cX3_wayBack 10 = .ok (.istore 4, 2) := by decide +kernel
theorem dX3_wayBack_12 : decode cX3_wayBack 12 = .ok (.iload 4, 2) := by decide +kernel
theorem dX3_wayBack_14 : decode cX3_wayBack 14 = .ok (.iconst 1, 1) := by decide +kernel
theorem dX3_wayBack_15 : decode cX3_wayBack 15 = .ok (.if_icmp .lt 36, 3) := by decide +kernel
theorem dX3_wayBack_18 : decode cX3_wayBack 18 = .ok (.iload 4, 2) := by decide +kernel
theorem dX3_wayBack_20 : decode cX3_wayBack 20 = .ok (.bipush 25, 2) := by decide +kernel
theorem dX3_wayBack_22 : decode cX3_wayBack 22 = .ok (.if_icmp .gt 29, 3) := by decide +kernel
theorem dX3_wayBack_25 : decode cX3_wayBack 25 = .ok (.iload_n 3, 1) := by decide +kernel
theorem dX3_wayBack_26 : decode cX3_wayBack 26 = .ok (.invokestatic 22, 3) := by decide +kernel
theorem dX3_wayBack_29 : decode cX3_wayBack 29 = .ok (.aload_n 0, 1) := by decide +kernel
theorem dX3_wayBack_30 : decode cX3_wayBack 30 = .ok (.getfield 9, 3) := by decide +kernel
theorem dX3_wayBack_33 : decode cX3_wayBack 33 = .ok (.iload 4, 2) := by decide +kernel
theorem dX3_wayBack_35 : decode cX3_wayBack 35 = .ok (.iaload, 1) := by decide +kernel
theorem dX3_wayBack_36 : decode cX3_wayBack 36 = .ok (.iand, 1) := by decide +kernel
theorem dX3_wayBack_37 : decode cX3_wayBack 37 = .ok (.invokestatic 45, 3) := by decide +kernel
theorem dX3_wayBack_40 : decode cX3_wayBack 40 = .ok (.istore_n 3, 1) := by decide +kernel
theorem dX3_wayBack_41 : decode cX3_wayBack 41 = .ok (.iload_n 2, 1) := by decide +kernel
theorem dX3_wayBack_42 : decode cX3_wayBack 42 = .ok (.iload_n 3, 1) := by decide +kernel
theorem dX3_wayBack_43 : decode cX3_wayBack 43 = .ok (.ior, 1) := by decide +kernel
theorem dX3_wayBack_44 : decode cX3_wayBack 44 = .ok (.istore_n 2, 1) := by decide +kernel
theorem dX3_wayBack_45 : decode cX3_wayBack 45 = .ok (.iinc 4 (-1), 3) := by decide +kernel
theorem dX3_wayBack_48 : decode cX3_wayBack 48 = .ok (.goto (-36), 3) := by decide +kernel
theorem dX3_wayBack_51 : decode cX3_wayBack 51 = .ok (.iload_n 2, 1) := by decide +kernel
theorem dX3_wayBack_52 : decode cX3_wayBack 52 = .ok (.ireturn, 1) := by decide +kernel
theorem dX4_init_0 : decode cX4_init 0 = .ok (.aload_n 0, 1) := by decide +kernel
theorem dX4_init_1 : decode cX4_init 1 = .ok (.invokespecial 3, 3) := by decide +kernel
theorem dX4_init_4 : decode cX4_init 4 = .ok (.aload_n 0, 1) := by decide +kernel
theorem dX4_init_5 : decode cX4_init 5 = .ok (.new 9, 3) := by decide +kernel
theorem dX4_init_8 : decode cX4_init 8 = .ok (.dup, 1) := by decide +kernel
theorem dX4_init_9 : decode cX4_init 9 = .ok (.invokespecial 11, 3) := by decide +kernel
theorem dX4_init_12 : decode cX4_init 12 = .ok (.putfield 12, 3) := by decide +kernel
theorem dX4_init_15 : decode cX4_init 15 = .ok (.return_, 1) := by decide +kernel
theorem dX4_tell_0 : decode cX4_tell 0 = .ok (.aload_n 0, 1) := by decide +kernel
theorem dX4_tell_1 : decode cX4_tell 1 = .ok (.getfield 12, 3) := by decide +kernel
theorem dX4_tell_4 : decode cX4_tell 4 = .ok (.aload_n 2, 1) := by decide +kernel
theorem dX4_tell_5 : decode cX4_tell 5 = .ok (.invokevirtual 18, 3) := by decide +kernel
theorem dX4_tell_8 : decode cX4_tell 8 = .ok (.aload_n 0, 1) := by decide +kernel
theorem dX4_tell_9 : decode cX4_tell 9 = .ok (.iconst 0, 1) := by decide +kernel
theorem dX4_tell_10 : decode cX4_tell 10 = .ok (.putfield 22, 3) := by decide +kernel
theorem dX4_tell_13 : decode cX4_tell 13 = .ok (.aload_n 0, 1) := by decide +kernel
theorem dX4_tell_14 : decode cX4_tell 14 = .ok (.iconst 0, 1) := by decide +kernel
theorem dX4_tell_15 : decode cX4_tell 15 = .ok (.putfield 26, 3) := by decide +kernel
theorem dX4_tell_18 : decode cX4_tell 18 = .ok (.aload_n 0, 1) := by decide +kernel
theorem dX4_tell_19 : decode cX4_tell 19 = .ok (.iconst 0, 1) := by decide +kernel
theorem dX4_tell_20 : decode cX4_tell 20 = .ok (.putfield 29, 3) := by decide +kernel
theorem dX4_tell_23 : decode cX4_tell 23 = .ok (.aload_n 0, 1) := by decide +kernel
theorem dX4_tell_24 : decode cX4_tell 24 = .ok (.bipush (-6), 2) := by decide +kernel
theorem dX4_tell_26 : decode cX4_tell 26 = .ok (.putfield 32, 3) := by decide +kernel
theorem dX4_tell_29 : decode cX4_tell 29 = .ok (.aload_n 0, 1) := by decide +kernel
theorem dX4_tell_30 : decode cX4_tell 30 = .ok (.bipush (-6), 2) := by decide +kernel
theorem dX4_tell_32 : decode cX4_tell 32 = .ok (.putfield 35, 3) := by decide +kernel
theorem dX4_tell_35 : decode cX4_tell 35 = .ok (.iconst 0, 1) := by decide +kernel
theorem dX4_tell_36 : decode cX4_tell 36 = .ok (.istore_n 3, 1) := by decide +kernel
theorem dX4_tell_37 : decode cX4_tell 37 = .ok (.iconst 0, 1) := by decide +kernel
theorem dX4_tell_38 : decode cX4_tell 38 = .ok (.istore 4, 2) := by decide +kernel
theorem dX4_tell_40 : decode cX4_tell 40 = .ok (.iload 4, 2) := by decide +kernel
theorem dX4_tell_42 : decode cX4_tell 42 = .ok (.bipush 60, 2) := by decide +kernel
theorem dX4_tell_44 : decode cX4_tell 44 = .ok (.if_icmp .ge 76, 3) := by decide +kernel
theorem dX4_tell_47 : decode cX4_tell 47 = .ok (.iload_n 3, 1) := by decide +kernel
theorem dX4_tell_48 : decode cX4_tell 48 = .ok (.aload_n 1, 1) := by decide +kernel
theorem dX4_tell_49 : decode cX4_tell 49 = .ok (.getfield 38, 3) := by decide +kernel
theorem dX4_tell_52 : decode cX4_tell 52 = .ok (.if_icmp .ge 68, 3) := by decide +kernel
theorem dX4_tell_55 : decode cX4_tell 55 = .ok (.aload_n 0, 1) := by decide +kernel
theorem dX4_tell_56 : decode cX4_tell 56 = .ok (.getfield 26, 3) := by decide +kernel
theorem dX4_tell_59 : decode cX4_tell 59 = .ok (.ifCond .ne 61, 3) := by decide +kernel
theorem dX4_tell_62 : decode cX4_tell 62 = .ok (.aload_n 1, 1) := by decide +kernel
theorem dX4_tell_63 : decode cX4_tell 63 = .ok (.iload_n 3, 1) := by decide +kernel
theorem dX4_tell_64 : decode cX4_tell 64 = .ok (.invokevirtual 43, 3) := by decide +kernel
theorem dX4_tell_67 : decode cX4_tell 67 = .ok (.istore 5, 2) := by decide +kernel
theorem dX4_tell_69 : decode cX4_tell 69 = .ok (.aload_n 0, 1) := by decide +kernel
theorem dX4_tell_70 : decode cX4_tell 70 = .ok (.aload_n 0, 1) := by decide +kernel
theorem dX4_tell_71 : decode cX4_tell 71 = .ok (.iload 5, 2) := by decide +kernel
theorem dX4_tell_73 : decode cX4_tell 73 = .ok (.aload_n 1, 1) := by decide +kernel
theorem dX4_tell_74 : decode cX4_tell 74 = .ok (.iload_n 3, 1) := by decide +kernel
theorem dX4_tell_75 : decode cX4_tell 75 = .ok (.iconst 1, 1) := by decide +kernel
theorem dX4_tell_76 : decode cX4_tell 76 = .ok (.iadd, 1) := by decide +kernel
theorem dX4_tell_77 : decode cX4_tell 77 = .ok (.invokevirtual 43, 3) := by decide +kernel
theorem dX4_tell_80 : decode cX4_tell 80 = .ok (.aload_n 1, 1) := by decide +kernel
theorem dX4_tell_81 : decode cX4_tell 81 = .ok (.iload_n 3, 1) := by decide +kernel
theorem dX4_tell_82 : decode cX4_tell 82 = .ok (.iconst 2, 1) := by decide +kernel
theorem dX4_tell_83 : decode cX4_tell 83 = .ok (.iadd, 1) := by decide +kernel
theorem dX4_tell_84 : decode cX4_tell 84 = .ok (.invokevirtual 43, 3) := by decide +kernel
theorem dX4_tell_87 : decode cX4_tell 87 = .ok (.invokevirtual 47, 3) := by decide +kernel
theorem dX4_tell_90 : decode cX4_tell 90 = .ok (.putfield 26, 3) := by decide +kernel
theorem dX4_tell_93 : decode cX4_tell 93 = .ok (.aload_n 0, 1) := by decide +kernel
theorem dX4_tell_94 : decode cX4_tell 94 = .ok (.getfield 26, 3) := by decide +kernel
theorem dX4_tell_97 : decode cX4_tell 97 = .ok (.ifCond .ne 9, 3) := by decide +kernel
theorem dX4_tell_100 : decode cX4_tell 100 = .ok (.aload_n 0, 1) := by decide +kernel
theorem dX4_tell_101 : decode cX4_tell 101 = .ok (.iload 5, 2) := by decide +kernel
theorem dX4_tell_103 : decode cX4_tell 103 = .ok (.invokevirtual 51, 3) := by decide +kernel
theorem dX4_tell_106 : decode cX4_tell 106 = .ok (.iload_n 3, 1) := by decide +kernel
theorem dX4_tell_107 : decode cX4_tell 107 = .ok (.iload 5, 2) := by decide +kernel
theorem dX4_tell_109 : decode cX4_tell 109 = .ok (.invokestatic 55, 3) := by decide +kernel
theorem dX4_tell_112 : decode cX4_tell 112 = .ok (.iadd, 1) := by decide +kernel
theorem dX4_tell_113 : decode cX4_tell 113 = .ok (.istore_n 3, 1) := by decide +kernel
theorem dX4_tell_114 : decode cX4_tell 114 = .ok (.iinc 4 1, 3) := by decide +kernel
theorem dX4_tell_117 : decode cX4_tell 117 = .ok (.goto (-77), 3) := by decide +kernel
theorem dX4_tell_120 : decode cX4_tell 120 = .ok (.return_, 1) := by decide +kernel
theorem dX4_attempt_0 : decode cX4_attempt 0 = .ok (.iload_n 1, 1) := by decide +kernel
theorem dX4_attempt_1 : decode cX4_attempt 1 = .ok (.lookupswitch 71 #[(37, 55), (43, 43), (46, 35)], 35) := by decide +kernel
theorem dX4_attempt_36 : decode cX4_attempt 36 = .ok (.aload_n 0, 1) := by decide +kernel
theorem dX4_attempt_37 : decode cX4_attempt 37 = .ok (.getfield 12, 3) := by decide +kernel
theorem dX4_attempt_40 : decode cX4_attempt 40 = .ok (.invokevirtual 58, 3) := by decide +kernel
theorem dX4_attempt_43 : decode cX4_attempt 43 = .ok (.ireturn, 1) := by decide +kernel
theorem dX4_attempt_44 : decode cX4_attempt 44 = .ok (.aload_n 0, 1) := by decide +kernel
theorem dX4_attempt_45 : decode cX4_attempt 45 = .ok (.getfield 12, 3) := by decide +kernel
theorem dX4_attempt_48 : decode cX4_attempt 48 = .ok (.iload_n 2, 1) := by decide +kernel
theorem dX4_attempt_49 : decode cX4_attempt 49 = .ok (.bipush 97, 2) := by decide +kernel
theorem dX4_attempt_51 : decode cX4_attempt 51 = .ok (.isub, 1) := by decide +kernel
theorem dX4_attempt_52 : decode cX4_attempt 52 = .ok (.invokevirtual 62, 3) := by decide +kernel
theorem dX4_attempt_55 : decode cX4_attempt 55 = .ok (.ireturn, 1) := by decide +kernel
theorem dX4_attempt_56 : decode cX4_attempt 56 = .ok (.aload_n 0, 1) := by decide +kernel
theorem dX4_attempt_57 : decode cX4_attempt 57 = .ok (.getfield 12, 3) := by decide +kernel
theorem dX4_attempt_60 : decode cX4_attempt 60 = .ok (.iload_n 2, 1) := by decide +kernel
theorem dX4_attempt_61 : decode cX4_attempt 61 = .ok (.bipush 97, 2) := by decide +kernel
theorem dX4_attempt_63 : decode cX4_attempt 63 = .ok (.isub, 1) := by decide +kernel
theorem dX4_attempt_64 : decode cX4_attempt 64 = .ok (.iload_n 3, 1) := by decide +kernel
theorem dX4_attempt_65 : decode cX4_attempt 65 = .ok (.bipush 48, 2) := by decide +kernel
theorem dX4_attempt_67 : decode cX4_attempt 67 = .ok (.isub, 1) := by decide +kernel
theorem dX4_attempt_68 : decode cX4_attempt 68 = .ok (.invokevirtual 65, 3) := by decide +kernel
theorem dX4_attempt_71 : decode cX4_attempt 71 = .ok (.ireturn, 1) := by decide +kernel
theorem dX4_attempt_72 : decode cX4_attempt 72 = .ok (.aload_n 0, 1) := by decide +kernel
theorem dX4_attempt_73 : decode cX4_attempt 73 = .ok (.iload_n 1, 1) := by decide +kernel
theorem dX4_attempt_74 : decode cX4_attempt 74 = .ok (.bipush 65, 2) := by decide +kernel
theorem dX4_attempt_76 : decode cX4_attempt 76 = .ok (.isub, 1) := by decide +kernel
theorem dX4_attempt_77 : decode cX4_attempt 77 = .ok (.iload_n 2, 1) := by decide +kernel
theorem dX4_attempt_78 : decode cX4_attempt 78 = .ok (.invokevirtual 69, 3) := by decide +kernel
theorem dX4_attempt_81 : decode cX4_attempt 81 = .ok (.ireturn, 1) := by decide +kernel
theorem dX4_attemptDeed_0 : decode cX4_attemptDeed 0 = .ok (.iload_n 2, 1) := by decide +kernel
theorem dX4_attemptDeed_1 : decode cX4_attemptDeed 1 = .ok (.bipush 33, 2) := by decide +kernel
theorem dX4_attemptDeed_3 : decode cX4_attemptDeed 3 = .ok (.if_icmp .ne 14, 3) := by decide +kernel
theorem dX4_attemptDeed_6 : decode cX4_attemptDeed 6 = .ok (.aload_n 0, 1) := by decide +kernel
theorem dX4_attemptDeed_7 : decode cX4_attemptDeed 7 = .ok (.getfield 12, 3) := by decide +kernel
theorem dX4_attemptDeed_10 : decode cX4_attemptDeed 10 = .ok (.iload_n 1, 1) := by decide +kernel
theorem dX4_attemptDeed_11 : decode cX4_attemptDeed 11 = .ok (.invokevirtual 72, 3) := by decide +kernel
theorem dX4_attemptDeed_14 : decode cX4_attemptDeed 14 = .ok (.goto 15, 3) := by decide +kernel
theorem dX4_attemptDeed_17 : decode cX4_attemptDeed 17 = .ok (.aload_n 0, 1) := by decide +kernel
theorem dX4_attemptDeed_18 : decode cX4_attemptDeed 18 = .ok (.getfield 12, 3) := by decide +kernel
theorem dX4_attemptDeed_21 : decode cX4_attemptDeed 21 = .ok (.iload_n 1, 1) := by decide +kernel
theorem dX4_attemptDeed_22 : decode cX4_attemptDeed 22 = .ok (.iload_n 2, 1) := by decide +kernel
theorem dX4_attemptDeed_23 : decode cX4_attemptDeed 23 = .ok (.invokestatic 75, 3) := by decide +kernel
theorem dX4_attemptDeed_26 : decode cX4_attemptDeed 26 = .ok (.invokevirtual 78, 3) := by decide +kernel
theorem dX4_attemptDeed_29 : decode cX4_attemptDeed 29 = .ok (.ireturn, 1) := by decide +kernel
theorem dX4_note_0 : decode cX4_note 0 = .ok (.aload_n 0, 1) := by decide +kernel
theorem dX4_note_1 : decode cX4_note 1 = .ok (.dup, 1) := by decide +kernel
theorem dX4_note_2 : decode cX4_note 2 = .ok (.getfield 22, 3) := by decide +kernel
theorem dX4_note_5 : decode cX4_note 5 = .ok (.iconst 1, 1) := by decide +kernel
theorem dX4_note_6 : decode cX4_note 6 = .ok (.iadd, 1) := by decide +kernel
theorem dX4_note_7 : decode cX4_note 7 = .ok (.putfield 22, 3) := by decide +kernel
theorem dX4_note_10 : decode cX4_note 10 = .ok (.iload_n 1, 1) := by decide +kernel
theorem dX4_note_11 : decode cX4_note 11 = .ok (.bipush 46, 2) := by decide +kernel
theorem dX4_note_13 : decode cX4_note 13 = .ok (.if_icmp .eq 4, 3) := by decide +kernel
theorem dX4_note_16 : decode cX4_note 16 = .ok (.return_, 1) := by decide +kernel
theorem dX4_note_17 : decode cX4_note 17 = .ok (.aload_n 0, 1) := by decide +kernel
theorem dX4_note_18 : decode cX4_note 18 = .ok (.getfield 35, 3) := by decide +kernel
theorem dX4_note_21 : decode cX4_note 21 = .ok (.bipush (-6), 2) := by decide +kernel
theorem dX4_note_23 : decode cX4_note 23 = .ok (.if_icmp .ne 34, 3) := by decide +kernel
theorem dX4_note_26 : decode cX4_note 26 = .ok (.aload_n 0, 1) := by decide +kernel
theorem dX4_note_27 : decode cX4_note 27 = .ok (.getfield 12, 3) := by decide +kernel
theorem dX4_note_30 : decode cX4_note 30 = .ok (.getfield 81, 3) := by decide +kernel
theorem dX4_note_33 : decode cX4_note 33 = .ok (.bipush (-6), 2) := by decide +kernel
theorem dX4_note_35 : decode cX4_note 35 = .ok (.if_icmp .eq 22, 3) := by decide +kernel
theorem dX4_note_38 : decode cX4_note 38 = .ok (.aload_n 0, 1) := by decide +kernel
theorem dX4_note_39 : decode cX4_note 39 = .ok (.aload_n 0, 1) := by decide +kernel
theorem dX4_note_40 : decode cX4_note 40 = .ok (.getfield 12, 3) := by decide +kernel
theorem dX4_note_43 : decode cX4_note 43 = .ok (.getfield 81, 3) := by decide +kernel
theorem dX4_note_46 : decode cX4_note 46 = .ok (.putfield 35, 3) := by decide +kernel
theorem dX4_note_49 : decode cX4_note 49 = .ok (.aload_n 0, 1) := by decide +kernel
theorem dX4_note_50 : decode cX4_note 50 = .ok (.aload_n 0, 1) := by decide +kernel
theorem dX4_note_51 : decode cX4_note 51 = .ok (.getfield 29, 3) := by decide +kernel
theorem dX4_note_54 : decode cX4_note 54 = .ok (.putfield 32, 3) := by decide +kernel
theorem dX4_note_57 : decode cX4_note 57 = .ok (.aload_n 0, 1) := by decide +kernel
theorem dX4_note_58 : decode cX4_note 58 = .ok (.dup, 1) := by decide +kernel
theorem dX4_note_59 : decode cX4_note 59 = .ok (.getfield 29, 3) := by decide +kernel
theorem dX4_note_62 : decode cX4_note 62 = .ok (.iconst 1, 1) := by decide +kernel
theorem dX4_note_63 : decode cX4_note 63 = .ok (.iadd, 1) := by decide +kernel
theorem dX4_note_64 : decode cX4_note 64 = .ok (.putfield 29, 3) := by decide +kernel
theorem dX4_note_67 : decode cX4_note 67 = .ok (.return_, 1) := by decide +kernel
theorem dX5_init_0 : decode cX5_init 0 = .ok (.aload_n 0, 1) := by decide +kernel
theorem dX5_init_1 : decode cX5_init 1 = .ok (.invokespecial 3, 3) := by decide +kernel
theorem dX5_init_4 : decode cX5_init 4 = .ok (.aload_n 0, 1) := by decide +kernel
theorem dX5_init_5 : decode cX5_init 5 = .ok (.bipush 60, 2) := by decide +kernel
theorem dX5_init_7 : decode cX5_init 7 = .ok (.newarray .int, 2) := by decide +kernel
theorem dX5_init_9 : decode cX5_init 9 = .ok (.putfield 9, 3) := by decide +kernel
theorem dX5_init_12 : decode cX5_init 12 = .ok (.return_, 1) := by decide +kernel
theorem dX5_append_0 : decode cX5_append 0 = .ok (.aload_n 0, 1) := by decide +kernel
theorem dX5_append_1 : decode cX5_append 1 = .ok (.getfield 15, 3) := by decide +kernel
theorem dX5_append_4 : decode cX5_append 4 = .ok (.bipush 60, 2) := by decide +kernel
theorem dX5_append_6 : decode cX5_append 6 = .ok (.if_icmp .lt 5, 3) := by decide +kernel
theorem dX5_append_9 : decode cX5_append 9 = .ok (.iconst 0, 1) := by decide +kernel
theorem dX5_append_10 : decode cX5_append 10 = .ok (.ireturn, 1) := by decide +kernel
theorem dX5_append_11 : decode cX5_append 11 = .ok (.aload_n 0, 1) := by decide +kernel
theorem dX5_append_12 : decode cX5_append 12 = .ok (.getfield 9, 3) := by decide +kernel
theorem dX5_append_15 : decode cX5_append 15 = .ok (.aload_n 0, 1) := by decide +kernel
theorem dX5_append_16 : decode cX5_append 16 = .ok (.getfield 15, 3) := by decide +kernel
theorem dX5_append_19 : decode cX5_append 19 = .ok (.iload_n 1, 1) := by decide +kernel
theorem dX5_append_20 : decode cX5_append 20 = .ok (.iastore, 1) := by decide +kernel
theorem dX5_append_21 : decode cX5_append 21 = .ok (.aload_n 0, 1) := by decide +kernel
theorem dX5_append_22 : decode cX5_append 22 = .ok (.dup, 1) := by decide +kernel
theorem dX5_append_23 : decode cX5_append 23 = .ok (.getfield 15, 3) := by decide +kernel
theorem dX5_append_26 : decode cX5_append 26 = .ok (.iconst 1, 1) := by decide +kernel
theorem dX5_append_27 : decode cX5_append 27 = .ok (.iadd, 1) := by decide +kernel
theorem dX5_append_28 : decode cX5_append 28 = .ok (.putfield 15, 3) := by decide +kernel
theorem dX5_append_31 : decode cX5_append 31 = .ok (.iconst 1, 1) := by decide +kernel
theorem dX5_append_32 : decode cX5_append 32 = .ok (.ireturn, 1) := by decide +kernel
theorem dX5_clear_0 : decode cX5_clear 0 = .ok (.aload_n 0, 1) := by decide +kernel
theorem dX5_clear_1 : decode cX5_clear 1 = .ok (.getfield 15, 3) := by decide +kernel
theorem dX5_clear_4 : decode cX5_clear 4 = .ok (.istore_n 1, 1) := by decide +kernel
theorem dX5_clear_5 : decode cX5_clear 5 = .ok (.aload_n 0, 1) := by decide +kernel
theorem dX5_clear_6 : decode cX5_clear 6 = .ok (.iconst 0, 1) := by decide +kernel
theorem dX5_clear_7 : decode cX5_clear 7 = .ok (.putfield 15, 3) := by decide +kernel
theorem dX5_clear_10 : decode cX5_clear 10 = .ok (.iload_n 1, 1) := by decide +kernel
theorem dX5_clear_11 : decode cX5_clear 11 = .ok (.ireturn, 1) := by decide +kernel
theorem dX5_signAt_0 : decode cX5_signAt 0 = .ok (.iload_n 1, 1) := by decide +kernel
theorem dX5_signAt_1 : decode cX5_signAt 1 = .ok (.ifCond .lt 20, 3) := by decide +kernel
theorem dX5_signAt_4 : decode cX5_signAt 4 = .ok (.iload_n 1, 1) := by decide +kernel
theorem dX5_signAt_5 : decode cX5_signAt 5 = .ok (.aload_n 0, 1) := by decide +kernel
theorem dX5_signAt_6 : decode cX5_signAt 6 = .ok (.getfield 15, 3) := by decide +kernel
theorem dX5_signAt_9 : decode cX5_signAt 9 = .ok (.if_icmp .ge 12, 3) := by decide +kernel
theorem dX5_signAt_12 : decode cX5_signAt 12 = .ok (.aload_n 0, 1) := by decide +kernel
theorem dX5_signAt_13 : decode cX5_signAt 13 = .ok (.getfield 9, 3) := by decide +kernel
theorem dX5_signAt_16 : decode cX5_signAt 16 = .ok (.iload_n 1, 1) := by decide +kernel
theorem dX5_signAt_17 : decode cX5_signAt 17 = .ok (.iaload, 1) := by decide +kernel
theorem dX5_signAt_18 : decode cX5_signAt 18 = .ok (.goto 4, 3) := by decide +kernel
theorem dX5_signAt_21 : decode cX5_signAt 21 = .ok (.iconst 0, 1) := by decide +kernel
theorem dX5_signAt_22 : decode cX5_signAt 22 = .ok (.ireturn, 1) := by decide +kernel
theorem dX5_firstWrong_0 : decode cX5_firstWrong 0 = .ok (.iconst 1, 1) := by decide +kernel
theorem dX5_firstWrong_1 : decode cX5_firstWrong 1 = .ok (.istore_n 1, 1) := by decide +kernel
theorem dX5_firstWrong_2 : decode cX5_firstWrong 2 = .ok (.iconst 0, 1) := by decide +kernel
theorem dX5_firstWrong_3 : decode cX5_firstWrong 3 = .ok (.istore_n 2, 1) := by decide +kernel
theorem dX5_firstWrong_4 : decode cX5_firstWrong 4 = .ok (.iload_n 2, 1) := by decide +kernel
theorem dX5_firstWrong_5 : decode cX5_firstWrong 5 = .ok (.aload_n 0, 1) := by decide +kernel
theorem dX5_firstWrong_6 : decode cX5_firstWrong 6 = .ok (.getfield 15, 3) := by decide +kernel
theorem dX5_firstWrong_9 : decode cX5_firstWrong 9 = .ok (.if_icmp .ge 25, 3) := by decide +kernel
theorem dX5_firstWrong_12 : decode cX5_firstWrong 12 = .ok (.iload_n 1, 1) := by decide +kernel
theorem dX5_firstWrong_13 : decode cX5_firstWrong 13 = .ok (.aload_n 0, 1) := by decide +kernel
theorem dX5_firstWrong_14 : decode cX5_firstWrong 14 = .ok (.iload_n 2, 1) := by decide +kernel
theorem dX5_firstWrong_15 : decode cX5_firstWrong 15 = .ok (.invokevirtual 19, 3) := by decide +kernel
theorem dX5_firstWrong_18 : decode cX5_firstWrong 18 = .ok (.invokestatic 23, 3) := by decide +kernel
theorem dX5_firstWrong_21 : decode cX5_firstWrong 21 = .ok (.istore_n 1, 1) := by decide +kernel
theorem dX5_firstWrong_22 : decode cX5_firstWrong 22 = .ok (.iload_n 1, 1) := by decide +kernel
theorem dX5_firstWrong_23 : decode cX5_firstWrong 23 = .ok (.ifCond .ne 5, 3) := by decide +kernel
theorem dX5_firstWrong_26 : decode cX5_firstWrong 26 = .ok (.iload_n 2, 1) := by decide +kernel
theorem dX5_firstWrong_27 : decode cX5_firstWrong 27 = .ok (.ireturn, 1) := by decide +kernel
theorem dX5_firstWrong_28 : decode cX5_firstWrong 28 = .ok (.iinc 2 1, 3) := by decide +kernel
theorem dX5_firstWrong_31 : decode cX5_firstWrong 31 = .ok (.goto (-27), 3) := by decide +kernel
theorem dX5_firstWrong_34 : decode cX5_firstWrong 34 = .ok (.iload_n 1, 1) := by decide +kernel
theorem dX5_firstWrong_35 : decode cX5_firstWrong 35 = .ok (.iconst 1, 1) := by decide +kernel
theorem dX5_firstWrong_36 : decode cX5_firstWrong 36 = .ok (.if_icmp .ne 8, 3) := by decide +kernel
theorem dX5_firstWrong_39 : decode cX5_firstWrong 39 = .ok (.bipush (-6), 2) := by decide +kernel
theorem dX5_firstWrong_41 : decode cX5_firstWrong 41 = .ok (.goto 7, 3) := by decide +kernel
theorem dX5_firstWrong_44 : decode cX5_firstWrong 44 = .ok (.aload_n 0, 1) := by decide +kernel
theorem dX5_firstWrong_45 : decode cX5_firstWrong 45 = .ok (.getfield 15, 3) := by decide +kernel
theorem dX5_firstWrong_48 : decode cX5_firstWrong 48 = .ok (.ireturn, 1) := by decide +kernel
theorem dX5_dueBehind_0 : decode cX5_dueBehind 0 = .ok (.iload_n 0, 1) := by decide +kernel
theorem dX5_dueBehind_1 : decode cX5_dueBehind 1 = .ok (.tableswitch 87 1 4 #[31, 36, 55, 71], 31) := by decide +kernel
theorem dX5_dueBehind_32 : decode cX5_dueBehind 32 = .ok (.iload_n 1, 1) := by decide +kernel
theorem dX5_dueBehind_33 : decode cX5_dueBehind 33 = .ok (.invokestatic 27, 3) := by decide +kernel
theorem dX5_dueBehind_36 : decode cX5_dueBehind 36 = .ok (.ireturn, 1) := by decide +kernel
theorem dX5_dueBehind_37 : decode cX5_dueBehind 37 = .ok (.iload_n 1, 1) := by decide +kernel
theorem dX5_dueBehind_38 : decode cX5_dueBehind 38 = .ok (.bipush 33, 2) := by decide +kernel
theorem dX5_dueBehind_40 : decode cX5_dueBehind 40 = .ok (.if_icmp .eq 10, 3) := by decide +kernel
theorem dX5_dueBehind_43 : decode cX5_dueBehind 43 = .ok (.iload_n 1, 1) := by decide +kernel
theorem dX5_dueBehind_44 : decode cX5_dueBehind 44 = .ok (.invokestatic 30, 3) := by decide +kernel
theorem dX5_dueBehind_47 : decode cX5_dueBehind 47 = .ok (.ifCond .lt 7, 3) := by decide +kernel
theorem dX5_dueBehind_50 : decode cX5_dueBehind 50 = .ok (.iconst 1, 1) := by decide +kernel
theorem dX5_dueBehind_51 : decode cX5_dueBehind 51 = .ok (.goto 4, 3) := by decide +kernel
theorem dX5_dueBehind_54 : decode cX5_dueBehind 54 = .ok (.iconst 0, 1) := by decide +kernel
theorem dX5_dueBehind_55 : decode cX5_dueBehind 55 = .ok (.ireturn, 1) := by decide +kernel
theorem dX5_dueBehind_56 : decode cX5_dueBehind 56 = .ok (.iload_n 1, 1) := by decide +kernel
theorem dX5_dueBehind_57 : decode cX5_dueBehind 57 = .ok (.bipush 97, 2) := by decide +kernel
theorem dX5_dueBehind_59 : decode cX5_dueBehind 59 = .ok (.isub, 1) := by decide +kernel
theorem dX5_dueBehind_60 : decode cX5_dueBehind 60 = .ok (.invokestatic 33, 3) := by decide +kernel
theorem dX5_dueBehind_63 : decode cX5_dueBehind 63 = .ok (.ifCond .eq 7, 3) := by decide +kernel
theorem dX5_dueBehind_66 : decode cX5_dueBehind 66 = .ok (.iconst 1, 1) := by decide +kernel
theorem dX5_dueBehind_67 : decode cX5_dueBehind 67 = .ok (.goto 4, 3) := by decide +kernel
theorem dX5_dueBehind_70 : decode cX5_dueBehind 70 = .ok (.iconst 0, 1) := by decide +kernel
theorem dX5_dueBehind_71 : decode cX5_dueBehind 71 = .ok (.ireturn, 1) := by decide +kernel
theorem dX5_dueBehind_72 : decode cX5_dueBehind 72 = .ok (.iload_n 1, 1) := by decide +kernel
theorem dX5_dueBehind_73 : decode cX5_dueBehind 73 = .ok (.bipush 97, 2) := by decide +kernel
theorem dX5_dueBehind_75 : decode cX5_dueBehind 75 = .ok (.isub, 1) := by decide +kernel
theorem dX5_dueBehind_76 : decode cX5_dueBehind 76 = .ok (.invokestatic 33, 3) := by decide +kernel
theorem dX5_dueBehind_79 : decode cX5_dueBehind 79 = .ok (.ifCond .eq 7, 3) := by decide +kernel
theorem dX5_dueBehind_82 : decode cX5_dueBehind 82 = .ok (.iconst 5, 1) := by decide +kernel
theorem dX5_dueBehind_83 : decode cX5_dueBehind 83 = .ok (.goto 4, 3) := by decide +kernel
theorem dX5_dueBehind_86 : decode cX5_dueBehind 86 = .ok (.iconst 0, 1) := by decide +kernel
theorem dX5_dueBehind_87 : decode cX5_dueBehind 87 = .ok (.ireturn, 1) := by decide +kernel
theorem dX5_dueBehind_88 : decode cX5_dueBehind 88 = .ok (.iload_n 1, 1) := by decide +kernel
theorem dX5_dueBehind_89 : decode cX5_dueBehind 89 = .ok (.bipush 48, 2) := by decide +kernel
theorem dX5_dueBehind_91 : decode cX5_dueBehind 91 = .ok (.isub, 1) := by decide +kernel
theorem dX5_dueBehind_92 : decode cX5_dueBehind 92 = .ok (.invokestatic 37, 3) := by decide +kernel
theorem dX5_dueBehind_95 : decode cX5_dueBehind 95 = .ok (.ifCond .eq 7, 3) := by decide +kernel
theorem dX5_dueBehind_98 : decode cX5_dueBehind 98 = .ok (.iconst 1, 1) := by decide +kernel
theorem dX5_dueBehind_99 : decode cX5_dueBehind 99 = .ok (.goto 4, 3) := by decide +kernel
theorem dX5_dueBehind_102 : decode cX5_dueBehind 102 = .ok (.iconst 0, 1) := by decide +kernel
theorem dX5_dueBehind_103 : decode cX5_dueBehind 103 = .ok (.ireturn, 1) := by decide +kernel
theorem dX5_dueBehindFirst_0 : decode cX5_dueBehindFirst 0 = .ok (.iload_n 0, 1) := by decide +kernel
theorem dX5_dueBehindFirst_1 : decode cX5_dueBehindFirst 1 = .ok (.lookupswitch 41 #[(37, 39), (43, 37), (46, 35)], 35) := by decide +kernel
theorem dX5_dueBehindFirst_36 : decode cX5_dueBehindFirst 36 = .ok (.iconst 1, 1) := by decide +kernel
theorem dX5_dueBehindFirst_37 : decode cX5_dueBehindFirst 37 = .ok (.ireturn, 1) := by decide +kernel
theorem dX5_dueBehindFirst_38 : decode cX5_dueBehindFirst 38 = .ok (.iconst 3, 1) := by decide +kernel
theorem dX5_dueBehindFirst_39 : decode cX5_dueBehindFirst 39 = .ok (.ireturn, 1) := by decide +kernel
theorem dX5_dueBehindFirst_40 : decode cX5_dueBehindFirst 40 = .ok (.iconst 4, 1) := by decide +kernel
theorem dX5_dueBehindFirst_41 : decode cX5_dueBehindFirst 41 = .ok (.ireturn, 1) := by decide +kernel
theorem dX5_dueBehindFirst_42 : decode cX5_dueBehindFirst 42 = .ok (.iload_n 0, 1) := by decide +kernel
theorem dX5_dueBehindFirst_43 : decode cX5_dueBehindFirst 43 = .ok (.bipush 65, 2) := by decide +kernel
theorem dX5_dueBehindFirst_45 : decode cX5_dueBehindFirst 45 = .ok (.isub, 1) := by decide +kernel
theorem dX5_dueBehindFirst_46 : decode cX5_dueBehindFirst 46 = .ok (.invokestatic 40, 3) := by decide +kernel
theorem dX5_dueBehindFirst_49 : decode cX5_dueBehindFirst 49 = .ok (.ifCond .eq 7, 3) := by decide +kernel
theorem dX5_dueBehindFirst_52 : decode cX5_dueBehindFirst 52 = .ok (.iconst 2, 1) := by decide +kernel
theorem dX5_dueBehindFirst_53 : decode cX5_dueBehindFirst 53 = .ok (.goto 4, 3) := by decide +kernel
theorem dX5_dueBehindFirst_56 : decode cX5_dueBehindFirst 56 = .ok (.iconst 0, 1) := by decide +kernel
theorem dX5_dueBehindFirst_57 : decode cX5_dueBehindFirst 57 = .ok (.ireturn, 1) := by decide +kernel
theorem dX5_headOf_0 : decode cX5_headOf 0 = .ok (.iload_n 0, 1) := by decide +kernel
theorem dX5_headOf_1 : decode cX5_headOf 1 = .ok (.lookupswitch 51 #[(101, 45), (110, 43), (115, 47), (119, 49)], 43) := by decide +kernel
theorem dX5_headOf_44 : decode cX5_headOf 44 = .ok (.iconst 0, 1) := by decide +kernel
theorem dX5_headOf_45 : decode cX5_headOf 45 = .ok (.ireturn, 1) := by decide +kernel
theorem dX5_headOf_46 : decode cX5_headOf 46 = .ok (.iconst 1, 1) := by decide +kernel
theorem dX5_headOf_47 : decode cX5_headOf 47 = .ok (.ireturn, 1) := by decide +kernel
theorem dX5_headOf_48 : decode cX5_headOf 48 = .ok (.iconst 2, 1) := by decide +kernel
theorem dX5_headOf_49 : decode cX5_headOf 49 = .ok (.ireturn, 1) := by decide +kernel
theorem dX5_headOf_50 : decode cX5_headOf 50 = .ok (.iconst 3, 1) := by decide +kernel
theorem dX5_headOf_51 : decode cX5_headOf 51 = .ok (.ireturn, 1) := by decide +kernel
theorem dX5_headOf_52 : decode cX5_headOf 52 = .ok (.iconst (-1), 1) := by decide +kernel
theorem dX5_headOf_53 : decode cX5_headOf 53 = .ok (.ireturn, 1) := by decide +kernel
theorem dX5_actLength_0 : decode cX5_actLength 0 = .ok (.iload_n 0, 1) := by decide +kernel
theorem dX5_actLength_1 : decode cX5_actLength 1 = .ok (.lookupswitch 31 #[(37, 29), (46, 27)], 27) := by decide +kernel
theorem dX5_actLength_28 : decode cX5_actLength 28 = .ok (.iconst 1, 1) := by decide +kernel
theorem dX5_actLength_29 : decode cX5_actLength 29 = .ok (.ireturn, 1) := by decide +kernel
theorem dX5_actLength_30 : decode cX5_actLength 30 = .ok (.iconst 3, 1) := by decide +kernel
theorem dX5_actLength_31 : decode cX5_actLength 31 = .ok (.ireturn, 1) := by decide +kernel
theorem dX5_actLength_32 : decode cX5_actLength 32 = .ok (.iconst 2, 1) := by decide +kernel
theorem dX5_actLength_33 : decode cX5_actLength 33 = .ok (.ireturn, 1) := by decide +kernel
theorem dX6_init_0 : decode cX6_init 0 = .ok (.aload_n 0, 1) := by decide +kernel
theorem dX6_init_1 : decode cX6_init 1 = .ok (.invokespecial 3, 3) := by decide +kernel
theorem dX6_init_4 : decode cX6_init 4 = .ok (.aload_n 0, 1) := by decide +kernel
theorem dX6_init_5 : decode cX6_init 5 = .ok (.bipush 25, 2) := by decide +kernel
theorem dX6_init_7 : decode cX6_init 7 = .ok (.newarray .int, 2) := by decide +kernel
theorem dX6_init_9 : decode cX6_init 9 = .ok (.putfield 9, 3) := by decide +kernel
theorem dX6_init_12 : decode cX6_init 12 = .ok (.aload_n 0, 1) := by decide +kernel
theorem dX6_init_13 : decode cX6_init 13 = .ok (.bipush 25, 2) := by decide +kernel
theorem dX6_init_15 : decode cX6_init 15 = .ok (.newarray .boolean, 2) := by decide +kernel
theorem dX6_init_17 : decode cX6_init 17 = .ok (.putfield 15, 3) := by decide +kernel
theorem dX6_init_20 : decode cX6_init 20 = .ok (.return_, 1) := by decide +kernel
theorem dX6_leastCost_0 : decode cX6_leastCost 0 = .ok (.iconst 0, 1) := by decide +kernel
theorem dX6_leastCost_1 : decode cX6_leastCost 1 = .ok (.istore 4, 2) := by decide +kernel
theorem dX6_leastCost_3 : decode cX6_leastCost 3 = .ok (.iload 4, 2) := by decide +kernel
theorem dX6_leastCost_5 : decode cX6_leastCost 5 = .ok (.bipush 25, 2) := by decide +kernel
theorem dX6_leastCost_7 : decode cX6_leastCost 7 = .ok (.if_icmp .ge 26, 3) := by decide +kernel
theorem dX6_leastCost_10 : decode cX6_leastCost 10 = .ok (.aload_n 0, 1) := by decide +kernel
theorem dX6_leastCost_11 : decode cX6_leastCost 11 = .ok (.getfield 9, 3) := by decide +kernel
theorem dX6_leastCost_14 : decode cX6_leastCost 14 = .ok (.iload 4, 2) := by decide +kernel
theorem dX6_leastCost_16 : decode cX6_leastCost 16 = .ok (.ldc 19, 2) := by decide +kernel
theorem dX6_leastCost_18 : decode cX6_leastCost 18 = .ok (.iastore, 1) := by decide +kernel
theorem dX6_leastCost_19 : decode cX6_leastCost 19 = .ok (.aload_n 0, 1) := by decide +kernel
theorem dX6_leastCost_20 : decode cX6_leastCost 20 = .ok (.getfield 15, 3) := by decide +kernel
theorem dX6_leastCost_23 : decode cX6_leastCost 23 = .ok (.iload 4, 2) := by decide +kernel
theorem dX6_leastCost_25 : decode cX6_leastCost 25 = .ok (.iconst 0, 1) := by decide +kernel
theorem dX6_leastCost_26 : decode cX6_leastCost 26 = .ok (.bastore, 1) := by decide +kernel
theorem dX6_leastCost_27 : decode cX6_leastCost 27 = .ok (.iinc 4 1, 3) := by decide +kernel
theorem dX6_leastCost_30 : decode cX6_leastCost 30 = .ok (.goto (-27), 3) := by decide +kernel
theorem dX6_leastCost_33 : decode cX6_leastCost 33 = .ok (.aload_n 0, 1) := by decide +kernel
theorem dX6_leastCost_34 : decode cX6_leastCost 34 = .ok (.getfield 9, 3) := by decide +kernel
theorem dX6_leastCost_37 : decode cX6_leastCost 37 = .ok (.iload_n 2, 1) := by decide +kernel
theorem dX6_leastCost_38 : decode cX6_leastCost 38 = .ok (.aload_n 1, 1) := by decide +kernel
theorem dX6_leastCost_39 : decode cX6_leastCost 39 = .ok (.iload_n 2, 1) := by decide +kernel
theorem dX6_leastCost_40 : decode cX6_leastCost 40 = .ok (.iaload, 1) := by decide +kernel
theorem dX6_leastCost_41 : decode cX6_leastCost 41 = .ok (.invokestatic 20, 3) := by decide +kernel
theorem dX6_leastCost_44 : decode cX6_leastCost 44 = .ok (.iastore, 1) := by decide +kernel
theorem dX6_leastCost_45 : decode cX6_leastCost 45 = .ok (.iconst 0, 1) := by decide +kernel
theorem dX6_leastCost_46 : decode cX6_leastCost 46 = .ok (.istore 4, 2) := by decide +kernel
theorem dX6_leastCost_48 : decode cX6_leastCost 48 = .ok (.iload 4, 2) := by decide +kernel
theorem dX6_leastCost_50 : decode cX6_leastCost 50 = .ok (.bipush 25, 2) := by decide +kernel
theorem dX6_leastCost_52 : decode cX6_leastCost 52 = .ok (.if_icmp .ge 47, 3) := by decide +kernel
theorem dX6_leastCost_55 : decode cX6_leastCost 55 = .ok (.aload_n 0, 1) := by decide +kernel
theorem dX6_leastCost_56 : decode cX6_leastCost 56 = .ok (.invokevirtual 24, 3) := by decide +kernel
theorem dX6_leastCost_59 : decode cX6_leastCost 59 = .ok (.istore 5, 2) := by decide +kernel
theorem dX6_leastCost_61 : decode cX6_leastCost 61 = .ok (.iload 5, 2) := by decide +kernel
theorem dX6_leastCost_63 : decode cX6_leastCost 63 = .ok (.invokestatic 28, 3) := by decide +kernel
theorem dX6_leastCost_66 : decode cX6_leastCost 66 = .ok (.ifCond .eq 33, 3) := by decide +kernel
theorem dX6_leastCost_69 : decode cX6_leastCost 69 = .ok (.iload 5, 2) := by decide +kernel
theorem dX6_leastCost_71 : decode cX6_leastCost 71 = .ok (.iload_n 3, 1) := by decide +kernel
theorem dX6_leastCost_72 : decode cX6_leastCost 72 = .ok (.if_icmp .ne 6, 3) := by decide +kernel
theorem dX6_leastCost_75 : decode cX6_leastCost 75 = .ok (.goto 24, 3) := by decide +kernel
theorem dX6_leastCost_78 : decode cX6_leastCost 78 = .ok (.aload_n 0, 1) := by decide +kernel
theorem dX6_leastCost_79 : decode cX6_leastCost 79 = .ok (.getfield 15, 3) := by decide +kernel
theorem dX6_leastCost_82 : decode cX6_leastCost 82 = .ok (.iload 5, 2) := by decide +kernel
theorem dX6_leastCost_84 : decode cX6_leastCost 84 = .ok (.iconst 1, 1) := by decide +kernel
theorem dX6_leastCost_85 : decode cX6_leastCost 85 = .ok (.bastore, 1) := by decide +kernel
theorem dX6_leastCost_86 : decode cX6_leastCost 86 = .ok (.aload_n 0, 1) := by decide +kernel
theorem dX6_leastCost_87 : decode cX6_leastCost 87 = .ok (.iload 5, 2) := by decide +kernel
theorem dX6_leastCost_89 : decode cX6_leastCost 89 = .ok (.aload_n 1, 1) := by decide +kernel
theorem dX6_leastCost_90 : decode cX6_leastCost 90 = .ok (.invokevirtual 32, 3) := by decide +kernel
theorem dX6_leastCost_93 : decode cX6_leastCost 93 = .ok (.iinc 4 1, 3) := by decide +kernel
theorem dX6_leastCost_96 : decode cX6_leastCost 96 = .ok (.goto (-48), 3) := by decide +kernel
theorem dX6_leastCost_99 : decode cX6_leastCost 99 = .ok (.aload_n 0, 1) := by decide +kernel
theorem dX6_leastCost_100 : decode cX6_leastCost 100 = .ok (.getfield 9, 3) := by decide +kernel
theorem dX6_leastCost_103 : decode cX6_leastCost 103 = .ok (.iload_n 3, 1) := by decide +kernel
theorem dX6_leastCost_104 : decode cX6_leastCost 104 = .ok (.iaload, 1) := by decide +kernel
theorem dX6_leastCost_105 : decode cX6_leastCost 105 = .ok (.ireturn, 1) := by decide +kernel
theorem dX6_costOfLand_0 : decode cX6_costOfLand 0 = .ok (.iload_n 0, 1) := by decide +kernel
theorem dX6_costOfLand_1 : decode cX6_costOfLand 1 = .ok (.iconst 3, 1) := by decide +kernel
theorem dX6_costOfLand_2 : decode cX6_costOfLand 2 = .ok (.if_icmp .ne 6, 3) := by decide +kernel
theorem dX6_costOfLand_5 : decode cX6_costOfLand 5 = .ok (.ldc 19, 2) := by decide +kernel
theorem dX6_costOfLand_7 : decode cX6_costOfLand 7 = .ok (.ireturn, 1) := by decide +kernel
theorem dX6_costOfLand_8 : decode cX6_costOfLand 8 = .ok (.iload_n 0, 1) := by decide +kernel
theorem dX6_costOfLand_9 : decode cX6_costOfLand 9 = .ok (.ifCond .ne 8, 3) := by decide +kernel
theorem dX6_costOfLand_12 : decode cX6_costOfLand 12 = .ok (.bipush 100, 2) := by decide +kernel
theorem dX6_costOfLand_14 : decode cX6_costOfLand 14 = .ok (.goto 4, 3) := by decide +kernel
theorem dX6_costOfLand_17 : decode cX6_costOfLand 17 = .ok (.iconst 0, 1) := by decide +kernel
theorem dX6_costOfLand_18 : decode cX6_costOfLand 18 = .ok (.ireturn, 1) := by decide +kernel
theorem dX6_nearest_0 : decode cX6_nearest 0 = .ok (.iconst (-1), 1) := by decide +kernel
theorem dX6_nearest_1 : decode cX6_nearest 1 = .ok (.istore_n 1, 1) := by decide +kernel
theorem dX6_nearest_2 : decode cX6_nearest 2 = .ok (.ldc 19, 2) := by decide +kernel
theorem dX6_nearest_4 : decode cX6_nearest 4 = .ok (.istore_n 2, 1) := by decide +kernel
theorem dX6_nearest_5 : decode cX6_nearest 5 = .ok (.iconst 0, 1) := by decide +kernel
theorem dX6_nearest_6 : decode cX6_nearest 6 = .ok (.istore_n 3, 1) := by decide +kernel
theorem dX6_nearest_7 : decode cX6_nearest 7 = .ok (.iload_n 3, 1) := by decide +kernel
theorem dX6_nearest_8 : decode cX6_nearest 8 = .ok (.bipush 25, 2) := by decide +kernel
theorem dX6_nearest_10 : decode cX6_nearest 10 = .ok (.if_icmp .ge 37, 3) := by decide +kernel
theorem dX6_nearest_13 : decode cX6_nearest 13 = .ok (.aload_n 0, 1) := by decide +kernel
theorem dX6_nearest_14 : decode cX6_nearest 14 = .ok (.getfield 15, 3) := by decide +kernel
theorem dX6_nearest_17 : decode cX6_nearest 17 = .ok (.iload_n 3, 1) := by decide +kernel
theorem dX6_nearest_18 : decode cX6_nearest 18 = .ok (.baload, 1) := by decide +kernel
theorem dX6_nearest_19 : decode cX6_nearest 19 = .ok (.ifCond .ne 22, 3) := by decide +kernel
theorem dX6_nearest_22 : decode cX6_nearest 22 = .ok (.aload_n 0, 1) := by decide +kernel
theorem dX6_nearest_23 : decode cX6_nearest 23 = .ok (.getfield 9, 3) := by decide +kernel
theorem dX6_nearest_26 : decode cX6_nearest 26 = .ok (.iload_n 3, 1) := by decide +kernel
theorem dX6_nearest_27 : decode cX6_nearest 27 = .ok (.iaload, 1) := by decide +kernel
theorem dX6_nearest_28 : decode cX6_nearest 28 = .ok (.iload_n 2, 1) := by decide +kernel
theorem dX6_nearest_29 : decode cX6_nearest 29 = .ok (.if_icmp .ge 12, 3) := by decide +kernel
theorem dX6_nearest_32 : decode cX6_nearest 32 = .ok (.iload_n 3, 1) := by decide +kernel
theorem dX6_nearest_33 : decode cX6_nearest 33 = .ok (.istore_n 1, 1) := by decide +kernel
theorem dX6_nearest_34 : decode cX6_nearest 34 = .ok (.aload_n 0, 1) := by decide +kernel
theorem dX6_nearest_35 : decode cX6_nearest 35 = .ok (.getfield 9, 3) := by decide +kernel
theorem dX6_nearest_38 : decode cX6_nearest 38 = .ok (.iload_n 3, 1) := by decide +kernel
theorem dX6_nearest_39 : decode cX6_nearest 39 = .ok (.iaload, 1) := by decide +kernel
theorem dX6_nearest_40 : decode cX6_nearest 40 = .ok (.istore_n 2, 1) := by decide +kernel
theorem dX6_nearest_41 : decode cX6_nearest 41 = .ok (.iinc 3 1, 3) := by decide +kernel
theorem dX6_nearest_44 : decode cX6_nearest 44 = .ok (.goto (-37), 3) := by decide +kernel
theorem dX6_nearest_47 : decode cX6_nearest 47 = .ok (.iload_n 1, 1) := by decide +kernel
theorem dX6_nearest_48 : decode cX6_nearest 48 = .ok (.ireturn, 1) := by decide +kernel
theorem dX6_spreadFrom_0 : decode cX6_spreadFrom 0 = .ok (.iconst 0, 1) := by decide +kernel
theorem dX6_spreadFrom_1 : decode cX6_spreadFrom 1 = .ok (.istore_n 3, 1) := by decide +kernel
theorem dX6_spreadFrom_2 : decode cX6_spreadFrom 2 = .ok (.iload_n 3, 1) := by decide +kernel
theorem dX6_spreadFrom_3 : decode cX6_spreadFrom 3 = .ok (.iconst 4, 1) := by decide +kernel
theorem dX6_spreadFrom_4 : decode cX6_spreadFrom 4 = .ok (.if_icmp .ge 57, 3) := by decide +kernel
theorem dX6_spreadFrom_7 : decode cX6_spreadFrom 7 = .ok (.iload_n 1, 1) := by decide +kernel
theorem dX6_spreadFrom_8 : decode cX6_spreadFrom 8 = .ok (.iload_n 3, 1) := by decide +kernel
theorem dX6_spreadFrom_9 : decode cX6_spreadFrom 9 = .ok (.invokestatic 36, 3) := by decide +kernel
theorem dX6_spreadFrom_12 : decode cX6_spreadFrom 12 = .ok (.istore 4, 2) := by decide +kernel
theorem dX6_spreadFrom_14 : decode cX6_spreadFrom 14 = .ok (.iload 4, 2) := by decide +kernel
theorem dX6_spreadFrom_16 : decode cX6_spreadFrom 16 = .ok (.invokestatic 28, 3) := by decide +kernel
theorem dX6_spreadFrom_19 : decode cX6_spreadFrom 19 = .ok (.ifCond .eq 36, 3) := by decide +kernel
theorem dX6_spreadFrom_22 : decode cX6_spreadFrom 22 = .ok (.aload_n 0, 1) := by decide +kernel
theorem dX6_spreadFrom_23 : decode cX6_spreadFrom 23 = .ok (.getfield 9, 3) := by decide +kernel
theorem dX6_spreadFrom_26 : decode cX6_spreadFrom 26 = .ok (.iload 4, 2) := by decide +kernel
theorem dX6_spreadFrom_28 : decode cX6_spreadFrom 28 = .ok (.aload_n 0, 1) := by decide +kernel
theorem dX6_spreadFrom_29 : decode cX6_spreadFrom 29 = .ok (.getfield 9, 3) := by decide +kernel
theorem dX6_spreadFrom_32 : decode cX6_spreadFrom 32 = .ok (.iload 4, 2) := by decide +kernel
theorem dX6_spreadFrom_34 : decode cX6_spreadFrom 34 = .ok (.iaload, 1) := by decide +kernel
theorem dX6_spreadFrom_35 : decode cX6_spreadFrom 35 = .ok (.aload_n 0, 1) := by decide +kernel
theorem dX6_spreadFrom_36 : decode cX6_spreadFrom 36 = .ok (.getfield 9, 3) := by decide +kernel
theorem dX6_spreadFrom_39 : decode cX6_spreadFrom 39 = .ok (.iload_n 1, 1) := by decide +kernel
theorem dX6_spreadFrom_40 : decode cX6_spreadFrom 40 = .ok (.iaload, 1) := by decide +kernel
theorem dX6_spreadFrom_41 : decode cX6_spreadFrom 41 = .ok (.iconst 1, 1) := by decide +kernel
theorem dX6_spreadFrom_42 : decode cX6_spreadFrom 42 = .ok (.iadd, 1) := by decide +kernel
theorem dX6_spreadFrom_43 : decode cX6_spreadFrom 43 = .ok (.aload_n 2, 1) := by decide +kernel
theorem dX6_spreadFrom_44 : decode cX6_spreadFrom 44 = .ok (.iload 4, 2) := by decide +kernel
theorem dX6_spreadFrom_46 : decode cX6_spreadFrom 46 = .ok (.iaload, 1) := by decide +kernel
theorem dX6_spreadFrom_47 : decode cX6_spreadFrom 47 = .ok (.invokestatic 20, 3) := by decide +kernel
theorem dX6_spreadFrom_50 : decode cX6_spreadFrom 50 = .ok (.iadd, 1) := by decide +kernel
theorem dX6_spreadFrom_51 : decode cX6_spreadFrom 51 = .ok (.invokestatic 40, 3) := by decide +kernel
theorem dX6_spreadFrom_54 : decode cX6_spreadFrom 54 = .ok (.iastore, 1) := by decide +kernel
theorem dX6_spreadFrom_55 : decode cX6_spreadFrom 55 = .ok (.iinc 3 1, 3) := by decide +kernel
theorem dX6_spreadFrom_58 : decode cX6_spreadFrom 58 = .ok (.goto (-56), 3) := by decide +kernel
theorem dX6_spreadFrom_61 : decode cX6_spreadFrom 61 = .ok (.return_, 1) := by decide +kernel
theorem dX7_init_0 : decode cX7_init 0 = .ok (.aload_n 0, 1) := by decide +kernel
theorem dX7_init_1 : decode cX7_init 1 = .ok (.invokespecial 3, 3) := by decide +kernel
theorem dX7_init_4 : decode cX7_init 4 = .ok (.aload_n 0, 1) := by decide +kernel
theorem dX7_init_5 : decode cX7_init 5 = .ok (.bipush 100, 2) := by decide +kernel
theorem dX7_init_7 : decode cX7_init 7 = .ok (.newarray .int, 2) := by decide +kernel
theorem dX7_init_9 : decode cX7_init 9 = .ok (.putfield 11, 3) := by decide +kernel
theorem dX7_init_12 : decode cX7_init 12 = .ok (.aload_n 0, 1) := by decide +kernel
theorem dX7_init_13 : decode cX7_init 13 = .ok (.bipush 100, 2) := by decide +kernel
theorem dX7_init_15 : decode cX7_init 15 = .ok (.newarray .int, 2) := by decide +kernel
theorem dX7_init_17 : decode cX7_init 17 = .ok (.putfield 15, 3) := by decide +kernel
theorem dX7_init_20 : decode cX7_init 20 = .ok (.aload_n 0, 1) := by decide +kernel
theorem dX7_init_21 : decode cX7_init 21 = .ok (.bipush 100, 2) := by decide +kernel
theorem dX7_init_23 : decode cX7_init 23 = .ok (.newarray .int, 2) := by decide +kernel
theorem dX7_init_25 : decode cX7_init 25 = .ok (.putfield 18, 3) := by decide +kernel
theorem dX7_init_28 : decode cX7_init 28 = .ok (.aload_n 0, 1) := by decide +kernel
theorem dX7_init_29 : decode cX7_init 29 = .ok (.bipush 41, 2) := by decide +kernel
theorem dX7_init_31 : decode cX7_init 31 = .ok (.newarray .int, 2) := by decide +kernel
theorem dX7_init_33 : decode cX7_init 33 = .ok (.putfield 21, 3) := by decide +kernel
theorem dX7_init_36 : decode cX7_init 36 = .ok (.aload_n 0, 1) := by decide +kernel
theorem dX7_init_37 : decode cX7_init 37 = .ok (.bipush 25, 2) := by decide +kernel
theorem dX7_init_39 : decode cX7_init 39 = .ok (.newarray .int, 2) := by decide +kernel
theorem dX7_init_41 : decode cX7_init 41 = .ok (.putfield 24, 3) := by decide +kernel
theorem dX7_init_44 : decode cX7_init 44 = .ok (.iconst 0, 1) := by decide +kernel
theorem dX7_init_45 : decode cX7_init 45 = .ok (.istore_n 1, 1) := by decide +kernel
theorem dX7_init_46 : decode cX7_init 46 = .ok (.iload_n 1, 1) := by decide +kernel
theorem dX7_init_47 : decode cX7_init 47 = .ok (.bipush 100, 2) := by decide +kernel
theorem dX7_init_49 : decode cX7_init 49 = .ok (.if_icmp .ge 19, 3) := by decide +kernel
theorem dX7_init_52 : decode cX7_init 52 = .ok (.aload_n 0, 1) := by decide +kernel
theorem dX7_init_53 : decode cX7_init 53 = .ok (.getfield 11, 3) := by decide +kernel
theorem dX7_init_56 : decode cX7_init 56 = .ok (.iload_n 1, 1) := by decide +kernel
theorem dX7_init_57 : decode cX7_init 57 = .ok (.iload_n 1, 1) := by decide +kernel
theorem dX7_init_58 : decode cX7_init 58 = .ok (.invokestatic 27, 3) := by decide +kernel
theorem dX7_init_61 : decode cX7_init 61 = .ok (.iastore, 1) := by decide +kernel
theorem dX7_init_62 : decode cX7_init 62 = .ok (.iinc 1 1, 3) := by decide +kernel
theorem dX7_init_65 : decode cX7_init 65 = .ok (.goto (-19), 3) := by decide +kernel
theorem dX7_init_68 : decode cX7_init 68 = .ok (.return_, 1) := by decide +kernel
theorem dX7_standBehind_0 : decode cX7_standBehind 0 = .ok (.iconst 0, 1) := by decide +kernel
theorem dX7_standBehind_1 : decode cX7_standBehind 1 = .ok (.istore_n 1, 1) := by decide +kernel
theorem dX7_standBehind_2 : decode cX7_standBehind 2 = .ok (.iload_n 1, 1) := by decide +kernel
theorem dX7_standBehind_3 : decode cX7_standBehind 3 = .ok (.iconst 4, 1) := by decide +kernel
theorem dX7_standBehind_4 : decode cX7_standBehind 4 = .ok (.if_icmp .ge 36, 3) := by decide +kernel
theorem dX7_standBehind_7 : decode cX7_standBehind 7 = .ok (.iload_n 0, 1) := by decide +kernel
theorem dX7_standBehind_8 : decode cX7_standBehind 8 = .ok (.iload_n 1, 1) := by decide +kernel
theorem dX7_standBehind_9 : decode cX7_standBehind 9 = .ok (.iadd, 1) := by decide +kernel
theorem dX7_standBehind_10 : decode cX7_standBehind 10 = .ok (.iconst 4, 1) := by decide +kernel
theorem dX7_standBehind_11 : decode cX7_standBehind 11 = .ok (.irem, 1) := by decide +kernel
theorem dX7_standBehind_12 : decode cX7_standBehind 12 = .ok (.istore_n 2, 1) := by decide +kernel
theorem dX7_standBehind_13 : decode cX7_standBehind 13 = .ok (.iload_n 0, 1) := by decide +kernel
theorem dX7_standBehind_14 : decode cX7_standBehind 14 = .ok (.iconst 4, 1) := by decide +kernel
theorem dX7_standBehind_15 : decode cX7_standBehind 15 = .ok (.idiv, 1) := by decide +kernel
theorem dX7_standBehind_16 : decode cX7_standBehind 16 = .ok (.iload_n 2, 1) := by decide +kernel
theorem dX7_standBehind_17 : decode cX7_standBehind 17 = .ok (.invokestatic 31, 3) := by decide +kernel
theorem dX7_standBehind_20 : decode cX7_standBehind 20 = .ok (.istore_n 3, 1) := by decide +kernel
theorem dX7_standBehind_21 : decode cX7_standBehind 21 = .ok (.iload_n 3, 1) := by decide +kernel
theorem dX7_standBehind_22 : decode cX7_standBehind 22 = .ok (.invokestatic 35, 3) := by decide +kernel
theorem dX7_standBehind_25 : decode cX7_standBehind 25 = .ok (.ifCond .eq 9, 3) := by decide +kernel
theorem dX7_standBehind_28 : decode cX7_standBehind 28 = .ok (.iconst 4, 1) := by decide +kernel
theorem dX7_standBehind_29 : decode cX7_standBehind 29 = .ok (.iload_n 3, 1) := by decide +kernel
theorem dX7_standBehind_30 : decode cX7_standBehind 30 = .ok (.imul, 1) := by decide +kernel
theorem dX7_standBehind_31 : decode cX7_standBehind 31 = .ok (.iload_n 2, 1) := by decide +kernel
theorem dX7_standBehind_32 : decode cX7_standBehind 32 = .ok (.iadd, 1) := by decide +kernel
theorem dX7_standBehind_33 : decode cX7_standBehind 33 = .ok (.ireturn, 1) := by decide +kernel
theorem dX7_standBehind_34 : decode cX7_standBehind 34 = .ok (.iinc 1 1, 3) := by decide +kernel
theorem dX7_standBehind_37 : decode cX7_standBehind 37 = .ok (.goto (-35), 3) := by decide +kernel
theorem dX7_standBehind_40 : decode cX7_standBehind 40 = .ok (.iload_n 0, 1) := by decide +kernel
theorem dX7_standBehind_41 : decode cX7_standBehind 41 = .ok (.ireturn, 1) := by decide +kernel
theorem dX7_gather_0 : decode cX7_gather 0 = .ok (.aload_n 0, 1) := by decide +kernel
theorem dX7_gather_1 : decode cX7_gather 1 = .ok (.aload_n 1, 1) := by decide +kernel
theorem dX7_gather_2 : decode cX7_gather 2 = .ok (.invokevirtual 39, 3) := by decide +kernel
theorem dX7_gather_5 : decode cX7_gather 5 = .ok (.aload_n 0, 1) := by decide +kernel
theorem dX7_gather_6 : decode cX7_gather 6 = .ok (.iconst 0, 1) := by decide +kernel
theorem dX7_gather_7 : decode cX7_gather 7 = .ok (.putfield 43, 3) := by decide +kernel
theorem dX7_gather_10 : decode cX7_gather 10 = .ok (.iconst 0, 1) := by decide +kernel
theorem dX7_gather_11 : decode cX7_gather 11 = .ok (.istore_n 2, 1) := by decide +kernel
theorem dX7_gather_12 : decode cX7_gather 12 = .ok (.iload_n 2, 1) := by decide +kernel
theorem dX7_gather_13 : decode cX7_gather 13 = .ok (.bipush 100, 2) := by decide +kernel
theorem dX7_gather_15 : decode cX7_gather 15 = .ok (.if_icmp .ge 37, 3) := by decide +kernel
theorem dX7_gather_18 : decode cX7_gather 18 = .ok (.aload_n 0, 1) := by decide +kernel
theorem dX7_gather_19 : decode cX7_gather 19 = .ok (.iload_n 2, 1) := by decide +kernel
theorem dX7_gather_20 : decode cX7_gather 20 = .ok (.invokevirtual 47, 3) := by decide +kernel
theorem dX7_gather_23 : decode cX7_gather 23 = .ok (.ifCond .eq 23, 3) := by decide +kernel
theorem dX7_gather_26 : decode cX7_gather 26 = .ok (.aload_n 0, 1) := by decide +kernel
theorem dX7_gather_27 : decode cX7_gather 27 = .ok (.getfield 15, 3) := by decide +kernel
theorem dX7_gather_30 : decode cX7_gather 30 = .ok (.aload_n 0, 1) := by decide +kernel
theorem dX7_gather_31 : decode cX7_gather 31 = .ok (.getfield 43, 3) := by decide +kernel
theorem dX7_gather_34 : decode cX7_gather 34 = .ok (.iload_n 2, 1) := by decide +kernel
theorem dX7_gather_35 : decode cX7_gather 35 = .ok (.iastore, 1) := by decide +kernel
theorem dX7_gather_36 : decode cX7_gather 36 = .ok (.aload_n 0, 1) := by decide +kernel
theorem dX7_gather_37 : decode cX7_gather 37 = .ok (.dup, 1) := by decide +kernel
theorem dX7_gather_38 : decode cX7_gather 38 = .ok (.getfield 43, 3) := by decide +kernel
theorem dX7_gather_41 : decode cX7_gather 41 = .ok (.iconst 1, 1) := by decide +kernel
theorem dX7_gather_42 : decode cX7_gather 42 = .ok (.iadd, 1) := by decide +kernel
theorem dX7_gather_43 : decode cX7_gather 43 = .ok (.putfield 43, 3) := by decide +kernel
theorem dX7_gather_46 : decode cX7_gather 46 = .ok (.iinc 2 1, 3) := by decide +kernel
theorem dX7_gather_49 : decode cX7_gather 49 = .ok (.goto (-37), 3) := by decide +kernel
theorem dX7_gather_52 : decode cX7_gather 52 = .ok (.return_, 1) := by decide +kernel
theorem dX7_readSights_0 : decode cX7_readSights 0 = .ok (.iconst 0, 1) := by decide +kernel
theorem dX7_readSights_1 : decode cX7_readSights 1 = .ok (.istore_n 2, 1) := by decide +kernel
theorem dX7_readSights_2 : decode cX7_readSights 2 = .ok (.iload_n 2, 1) := by decide +kernel
theorem dX7_readSights_3 : decode cX7_readSights 3 = .ok (.bipush 41, 2) := by decide +kernel
theorem dX7_readSights_5 : decode cX7_readSights 5 = .ok (.if_icmp .ge 16, 3) := by decide +kernel
theorem dX7_readSights_8 : decode cX7_readSights 8 = .ok (.aload_n 0, 1) := by decide +kernel
theorem dX7_readSights_9 : decode cX7_readSights 9 = .ok (.getfield 21, 3) := by decide +kernel
theorem dX7_readSights_12 : decode cX7_readSights 12 = .ok (.iload_n 2, 1) := by decide +kernel
theorem dX7_readSights_13 : decode cX7_readSights 13 = .ok (.iconst (-1), 1) := by decide +kernel
theorem dX7_readSights_14 : decode cX7_readSights 14 = .ok (.iastore, 1) := by decide +kernel
theorem dX7_readSights_15 : decode cX7_readSights 15 = .ok (.iinc 2 1, 3) := by decide +kernel
theorem dX7_readSights_18 : decode cX7_readSights 18 = .ok (.goto (-16), 3) := by decide +kernel
theorem dX7_readSights_21 : decode cX7_readSights 21 = .ok (.iconst 0, 1) := by decide +kernel
theorem dX7_readSights_22 : decode cX7_readSights 22 = .ok (.istore_n 2, 1) := by decide +kernel
theorem dX7_readSights_23 : decode cX7_readSights 23 = .ok (.iload_n 2, 1) := by decide +kernel
theorem dX7_readSights_24 : decode cX7_readSights 24 = .ok (.bipush 8, 2) := by decide +kernel
theorem dX7_readSights_26 : decode cX7_readSights 26 = .ok (.if_icmp .ge 91, 3) := by decide +kernel
theorem dX7_readSights_29 : decode cX7_readSights 29 = .ok (.iload_n 2, 1) := by decide +kernel
theorem dX7_readSights_30 : decode cX7_readSights 30 = .ok (.aload_n 1, 1) := by decide +kernel
theorem dX7_readSights_31 : decode cX7_readSights 31 = .ok (.getfield 50, 3) := by decide +kernel
theorem dX7_readSights_34 : decode cX7_readSights 34 = .ok (.if_icmp .ge 83, 3) := by decide +kernel
theorem dX7_readSights_37 : decode cX7_readSights 37 = .ok (.aload_n 1, 1) := by decide +kernel
theorem dX7_readSights_38 : decode cX7_readSights 38 = .ok (.getfield 55, 3) := by decide +kernel
theorem dX7_readSights_41 : decode cX7_readSights 41 = .ok (.iload_n 2, 1) := by decide +kernel
theorem dX7_readSights_42 : decode cX7_readSights 42 = .ok (.iaload, 1) := by decide +kernel
theorem dX7_readSights_43 : decode cX7_readSights 43 = .ok (.istore_n 3, 1) := by decide +kernel
theorem dX7_readSights_44 : decode cX7_readSights 44 = .ok (.aload_n 1, 1) := by decide +kernel
theorem dX7_readSights_45 : decode cX7_readSights 45 = .ok (.getfield 58, 3) := by decide +kernel
theorem dX7_readSights_48 : decode cX7_readSights 48 = .ok (.iload_n 2, 1) := by decide +kernel
theorem dX7_readSights_49 : decode cX7_readSights 49 = .ok (.iaload, 1) := by decide +kernel
theorem dX7_readSights_50 : decode cX7_readSights 50 = .ok (.istore 4, 2) := by decide +kernel
theorem dX7_readSights_52 : decode cX7_readSights 52 = .ok (.iload_n 3, 1) := by decide +kernel
theorem dX7_readSights_53 : decode cX7_readSights 53 = .ok (.iconst 0, 1) := by decide +kernel
theorem dX7_readSights_54 : decode cX7_readSights 54 = .ok (.bipush 40, 2) := by decide +kernel
theorem dX7_readSights_56 : decode cX7_readSights 56 = .ok (.invokestatic 61, 3) := by decide +kernel
theorem dX7_readSights_59 : decode cX7_readSights 59 = .ok (.ifCond .ne 6, 3) := by decide +kernel
theorem dX7_readSights_62 : decode cX7_readSights 62 = .ok (.goto 49, 3) := by decide +kernel
theorem dX7_readSights_65 : decode cX7_readSights 65 = .ok (.aload_n 0, 1) := by decide +kernel
theorem dX7_readSights_66 : decode cX7_readSights 66 = .ok (.getfield 21, 3) := by decide +kernel
theorem dX7_readSights_69 : decode cX7_readSights 69 = .ok (.iload_n 3, 1) := by decide +kernel
theorem dX7_readSights_70 : decode cX7_readSights 70 = .ok (.iaload, 1) := by decide +kernel
theorem dX7_readSights_71 : decode cX7_readSights 71 = .ok (.iconst (-1), 1) := by decide +kernel
theorem dX7_readSights_72 : decode cX7_readSights 72 = .ok (.if_icmp .eq 14, 3) := by decide +kernel
theorem dX7_readSights_75 : decode cX7_readSights 75 = .ok (.aload_n 0, 1) := by decide +kernel
theorem dX7_readSights_76 : decode cX7_readSights 76 = .ok (.getfield 21, 3) := by decide +kernel
theorem dX7_readSights_79 : decode cX7_readSights 79 = .ok (.iload_n 3, 1) := by decide +kernel
theorem dX7_readSights_80 : decode cX7_readSights 80 = .ok (.iaload, 1) := by decide +kernel
theorem dX7_readSights_81 : decode cX7_readSights 81 = .ok (.iload 4, 2) := by decide +kernel
theorem dX7_readSights_83 : decode cX7_readSights 83 = .ok (.if_icmp .ne 7, 3) := by decide +kernel
theorem dX7_readSights_86 : decode cX7_readSights 86 = .ok (.iconst 1, 1) := by decide +kernel
theorem dX7_readSights_87 : decode cX7_readSights 87 = .ok (.goto 4, 3) := by decide +kernel
theorem dX7_readSights_90 : decode cX7_readSights 90 = .ok (.iconst 0, 1) := by decide +kernel
theorem dX7_readSights_91 : decode cX7_readSights 91 = .ok (.istore 5, 2) := by decide +kernel
theorem dX7_readSights_93 : decode cX7_readSights 93 = .ok (.aload_n 0, 1) := by decide +kernel
theorem dX7_readSights_94 : decode cX7_readSights 94 = .ok (.getfield 21, 3) := by decide +kernel
theorem dX7_readSights_97 : decode cX7_readSights 97 = .ok (.iload_n 3, 1) := by decide +kernel
theorem dX7_readSights_98 : decode cX7_readSights 98 = .ok (.iload 5, 2) := by decide +kernel
theorem dX7_readSights_100 : decode cX7_readSights 100 = .ok (.ifCond .eq 8, 3) := by decide +kernel
theorem dX7_readSights_103 : decode cX7_readSights 103 = .ok (.iload 4, 2) := by decide +kernel
theorem dX7_readSights_105 : decode cX7_readSights 105 = .ok (.goto 5, 3) := by decide +kernel
theorem dX7_readSights_108 : decode cX7_readSights 108 = .ok (.bipush (-2), 2) := by decide +kernel
theorem dX7_readSights_110 : decode cX7_readSights 110 = .ok (.iastore, 1) := by decide +kernel
theorem dX7_readSights_111 : decode cX7_readSights 111 = .ok (.iinc 2 1, 3) := by decide +kernel
theorem dX7_readSights_114 : decode cX7_readSights 114 = .ok (.goto (-91), 3) := by decide +kernel
theorem dX7_readSights_117 : decode cX7_readSights 117 = .ok (.return_, 1) := by decide +kernel
theorem dX7_fits_0 : decode cX7_fits 0 = .ok (.iload_n 1, 1) := by decide +kernel
theorem dX7_fits_1 : decode cX7_fits 1 = .ok (.istore_n 2, 1) := by decide +kernel
theorem dX7_fits_2 : decode cX7_fits 2 = .ok (.iconst 0, 1) := by decide +kernel
theorem dX7_fits_3 : decode cX7_fits 3 = .ok (.istore_n 3, 1) := by decide +kernel
theorem dX7_fits_4 : decode cX7_fits 4 = .ok (.iload_n 3, 1) := by decide +kernel
theorem dX7_fits_5 : decode cX7_fits 5 = .ok (.bipush 41, 2) := by decide +kernel
theorem dX7_fits_7 : decode cX7_fits 7 = .ok (.if_icmp .ge 40, 3) := by decide +kernel
theorem dX7_fits_10 : decode cX7_fits 10 = .ok (.aload_n 0, 1) := by decide +kernel
theorem dX7_fits_11 : decode cX7_fits 11 = .ok (.getfield 21, 3) := by decide +kernel
theorem dX7_fits_14 : decode cX7_fits 14 = .ok (.iload_n 3, 1) := by decide +kernel
theorem dX7_fits_15 : decode cX7_fits 15 = .ok (.iaload, 1) := by decide +kernel
theorem dX7_fits_16 : decode cX7_fits 16 = .ok (.iconst (-1), 1) := by decide +kernel
theorem dX7_fits_17 : decode cX7_fits 17 = .ok (.if_icmp .eq 17, 3) := by decide +kernel
theorem dX7_fits_20 : decode cX7_fits 20 = .ok (.aload_n 0, 1) := by decide +kernel
theorem dX7_fits_21 : decode cX7_fits 21 = .ok (.getfield 21, 3) := by decide +kernel
theorem dX7_fits_24 : decode cX7_fits 24 = .ok (.iload_n 3, 1) := by decide +kernel
theorem dX7_fits_25 : decode cX7_fits 25 = .ok (.iaload, 1) := by decide +kernel
theorem dX7_fits_26 : decode cX7_fits 26 = .ok (.iload_n 2, 1) := by decide +kernel
theorem dX7_fits_27 : decode cX7_fits 27 = .ok (.iconst 4, 1) := by decide +kernel
theorem dX7_fits_28 : decode cX7_fits 28 = .ok (.idiv, 1) := by decide +kernel
theorem dX7_fits_29 : decode cX7_fits 29 = .ok (.if_icmp .eq 5, 3) := by decide +kernel
theorem dX7_fits_32 : decode cX7_fits 32 = .ok (.iconst 0, 1) := by decide +kernel
theorem dX7_fits_33 : decode cX7_fits 33 = .ok (.ireturn, 1) := by decide +kernel
theorem dX7_fits_34 : decode cX7_fits 34 = .ok (.aload_n 0, 1) := by decide +kernel
theorem dX7_fits_35 : decode cX7_fits 35 = .ok (.getfield 11, 3) := by decide +kernel
theorem dX7_fits_38 : decode cX7_fits 38 = .ok (.iload_n 2, 1) := by decide +kernel
theorem dX7_fits_39 : decode cX7_fits 39 = .ok (.iaload, 1) := by decide +kernel
theorem dX7_fits_40 : decode cX7_fits 40 = .ok (.istore_n 2, 1) := by decide +kernel
theorem dX7_fits_41 : decode cX7_fits 41 = .ok (.iinc 3 1, 3) := by decide +kernel
theorem dX7_fits_44 : decode cX7_fits 44 = .ok (.goto (-40), 3) := by decide +kernel
theorem dX7_fits_47 : decode cX7_fits 47 = .ok (.iconst 1, 1) := by decide +kernel
theorem dX7_fits_48 : decode cX7_fits 48 = .ok (.ireturn, 1) := by decide +kernel
theorem dX7_toldStart_0 : decode cX7_toldStart 0 = .ok (.iload_n 1, 1) := by decide +kernel
theorem dX7_toldStart_1 : decode cX7_toldStart 1 = .ok (.ifCond .lt 18, 3) := by decide +kernel
theorem dX7_toldStart_4 : decode cX7_toldStart 4 = .ok (.iload_n 1, 1) := by decide +kernel
theorem dX7_toldStart_5 : decode cX7_toldStart 5 = .ok (.bipush 100, 2) := by decide +kernel
theorem dX7_toldStart_7 : decode cX7_toldStart 7 = .ok (.if_icmp .ge 12, 3) := by decide +kernel
theorem dX7_toldStart_10 : decode cX7_toldStart 10 = .ok (.aload_n 0, 1) := by decide +kernel
theorem dX7_toldStart_11 : decode cX7_toldStart 11 = .ok (.getfield 15, 3) := by decide +kernel
theorem dX7_toldStart_14 : decode cX7_toldStart 14 = .ok (.iload_n 1, 1) := by decide +kernel
theorem dX7_toldStart_15 : decode cX7_toldStart 15 = .ok (.iaload, 1) := by decide +kernel
theorem dX7_toldStart_16 : decode cX7_toldStart 16 = .ok (.goto 4, 3) := by decide +kernel
theorem dX7_toldStart_19 : decode cX7_toldStart 19 = .ok (.iconst 0, 1) := by decide +kernel
theorem dX7_toldStart_20 : decode cX7_toldStart 20 = .ok (.istore_n 2, 1) := by decide +kernel
theorem dX7_toldStart_21 : decode cX7_toldStart 21 = .ok (.iload_n 2, 1) := by decide +kernel
theorem dX7_toldStart_22 : decode cX7_toldStart 22 = .ok (.iconst 4, 1) := by decide +kernel
theorem dX7_toldStart_23 : decode cX7_toldStart 23 = .ok (.idiv, 1) := by decide +kernel
theorem dX7_toldStart_24 : decode cX7_toldStart 24 = .ok (.bipush 10, 2) := by decide +kernel
theorem dX7_toldStart_26 : decode cX7_toldStart 26 = .ok (.imul, 1) := by decide +kernel
theorem dX7_toldStart_27 : decode cX7_toldStart 27 = .ok (.iload_n 2, 1) := by decide +kernel
theorem dX7_toldStart_28 : decode cX7_toldStart 28 = .ok (.iconst 4, 1) := by decide +kernel
theorem dX7_toldStart_29 : decode cX7_toldStart 29 = .ok (.irem, 1) := by decide +kernel
theorem dX7_toldStart_30 : decode cX7_toldStart 30 = .ok (.iadd, 1) := by decide +kernel
theorem dX7_toldStart_31 : decode cX7_toldStart 31 = .ok (.ireturn, 1) := by decide +kernel
theorem dX7_chooseNight_0 : decode cX7_chooseNight 0 = .ok (.iconst 0, 1) := by decide +kernel
theorem dX7_chooseNight_1 : decode cX7_chooseNight 1 = .ok (.istore_n 1, 1) := by decide +kernel
theorem dX7_chooseNight_2 : decode cX7_chooseNight 2 = .ok (.iload_n 1, 1) := by decide +kernel
theorem dX7_chooseNight_3 : decode cX7_chooseNight 3 = .ok (.aload_n 0, 1) := by decide +kernel
theorem dX7_chooseNight_4 : decode cX7_chooseNight 4 = .ok (.getfield 43, 3) := by decide +kernel
theorem dX7_chooseNight_7 : decode cX7_chooseNight 7 = .ok (.if_icmp .ge 21, 3) := by decide +kernel
theorem dX7_chooseNight_10 : decode cX7_chooseNight 10 = .ok (.aload_n 0, 1) := by decide +kernel
theorem dX7_chooseNight_11 : decode cX7_chooseNight 11 = .ok (.getfield 18, 3) := by decide +kernel
theorem dX7_chooseNight_14 : decode cX7_chooseNight 14 = .ok (.iload_n 1, 1) := by decide +kernel
theorem dX7_chooseNight_15 : decode cX7_chooseNight 15 = .ok (.aload_n 0, 1) := by decide +kernel
theorem dX7_chooseNight_16 : decode cX7_chooseNight 16 = .ok (.getfield 15, 3) := by decide +kernel
theorem dX7_chooseNight_19 : decode cX7_chooseNight 19 = .ok (.iload_n 1, 1) := by decide +kernel
theorem dX7_chooseNight_20 : decode cX7_chooseNight 20 = .ok (.iaload, 1) := by decide +kernel
theorem dX7_chooseNight_21 : decode cX7_chooseNight 21 = .ok (.iastore, 1) := by decide +kernel
theorem dX7_chooseNight_22 : decode cX7_chooseNight 22 = .ok (.iinc 1 1, 3) := by decide +kernel
theorem dX7_chooseNight_25 : decode cX7_chooseNight 25 = .ok (.goto (-23), 3) := by decide +kernel
theorem dX7_chooseNight_28 : decode cX7_chooseNight 28 = .ok (.aload_n 0, 1) := by decide +kernel
theorem dX7_chooseNight_29 : decode cX7_chooseNight 29 = .ok (.iconst 0, 1) := by decide +kernel
theorem dX7_chooseNight_30 : decode cX7_chooseNight 30 = .ok (.putfield 65, 3) := by decide +kernel
theorem dX7_chooseNight_33 : decode cX7_chooseNight 33 = .ok (.aload_n 0, 1) := by decide +kernel
theorem dX7_chooseNight_34 : decode cX7_chooseNight 34 = .ok (.bipush 101, 2) := by decide +kernel
theorem dX7_chooseNight_36 : decode cX7_chooseNight 36 = .ok (.putfield 68, 3) := by decide +kernel
theorem dX7_chooseNight_39 : decode cX7_chooseNight 39 = .ok (.iconst 0, 1) := by decide +kernel
theorem dX7_chooseNight_40 : decode cX7_chooseNight 40 = .ok (.istore_n 1, 1) := by decide +kernel
theorem dX7_chooseNight_41 : decode cX7_chooseNight 41 = .ok (.iload_n 1, 1) := by decide +kernel
theorem dX7_chooseNight_42 : decode cX7_chooseNight 42 = .ok (.bipush 41, 2) := by decide +kernel
theorem dX7_chooseNight_44 : decode cX7_chooseNight 44 = .ok (.if_icmp .ge 65, 3) := by decide +kernel
theorem dX7_chooseNight_47 : decode cX7_chooseNight 47 = .ok (.aload_n 0, 1) := by decide +kernel
theorem dX7_chooseNight_48 : decode cX7_chooseNight 48 = .ok (.invokevirtual 71, 3) := by decide +kernel
theorem dX7_chooseNight_51 : decode cX7_chooseNight 51 = .ok (.istore_n 2, 1) := by decide +kernel
theorem dX7_chooseNight_52 : decode cX7_chooseNight 52 = .ok (.iload_n 2, 1) := by decide +kernel
theorem dX7_chooseNight_53 : decode cX7_chooseNight 53 = .ok (.aload_n 0, 1) := by decide +kernel
theorem dX7_chooseNight_54 : decode cX7_chooseNight 54 = .ok (.getfield 68, 3) := by decide +kernel
theorem dX7_chooseNight_57 : decode cX7_chooseNight 57 = .ok (.if_icmp .ge 13, 3) := by decide +kernel
theorem dX7_chooseNight_60 : decode cX7_chooseNight 60 = .ok (.aload_n 0, 1) := by decide +kernel
theorem dX7_chooseNight_61 : decode cX7_chooseNight 61 = .ok (.iload_n 2, 1) := by decide +kernel
theorem dX7_chooseNight_62 : decode cX7_chooseNight 62 = .ok (.putfield 68, 3) := by decide +kernel
theorem dX7_chooseNight_65 : decode cX7_chooseNight 65 = .ok (.aload_n 0, 1) := by decide +kernel
theorem dX7_chooseNight_66 : decode cX7_chooseNight 66 = .ok (.iload_n 1, 1) := by decide +kernel
theorem dX7_chooseNight_67 : decode cX7_chooseNight 67 = .ok (.putfield 65, 3) := by decide +kernel
theorem dX7_chooseNight_70 : decode cX7_chooseNight 70 = .ok (.iconst 0, 1) := by decide +kernel
theorem dX7_chooseNight_71 : decode cX7_chooseNight 71 = .ok (.istore_n 3, 1) := by decide +kernel
theorem dX7_chooseNight_72 : decode cX7_chooseNight 72 = .ok (.iload_n 3, 1) := by decide +kernel
theorem dX7_chooseNight_73 : decode cX7_chooseNight 73 = .ok (.aload_n 0, 1) := by decide +kernel
theorem dX7_chooseNight_74 : decode cX7_chooseNight 74 = .ok (.getfield 43, 3) := by decide +kernel
theorem dX7_chooseNight_77 : decode cX7_chooseNight 77 = .ok (.if_icmp .ge 26, 3) := by decide +kernel
theorem dX7_chooseNight_80 : decode cX7_chooseNight 80 = .ok (.aload_n 0, 1) := by decide +kernel
theorem dX7_chooseNight_81 : decode cX7_chooseNight 81 = .ok (.getfield 18, 3) := by decide +kernel
theorem dX7_chooseNight_84 : decode cX7_chooseNight 84 = .ok (.iload_n 3, 1) := by decide +kernel
theorem dX7_chooseNight_85 : decode cX7_chooseNight 85 = .ok (.aload_n 0, 1) := by decide +kernel
theorem dX7_chooseNight_86 : decode cX7_chooseNight 86 = .ok (.getfield 11, 3) := by decide +kernel
theorem dX7_chooseNight_89 : decode cX7_chooseNight 89 = .ok (.aload_n 0, 1) := by decide +kernel
theorem dX7_chooseNight_90 : decode cX7_chooseNight 90 = .ok (.getfield 18, 3) := by decide +kernel
theorem dX7_chooseNight_93 : decode cX7_chooseNight 93 = .ok (.iload_n 3, 1) := by decide +kernel
theorem dX7_chooseNight_94 : decode cX7_chooseNight 94 = .ok (.iaload, 1) := by decide +kernel
theorem dX7_chooseNight_95 : decode cX7_chooseNight 95 = .ok (.iaload, 1) := by decide +kernel
theorem dX7_chooseNight_96 : decode cX7_chooseNight 96 = .ok (.iastore, 1) := by decide +kernel
theorem dX7_chooseNight_97 : decode cX7_chooseNight 97 = .ok (.iinc 3 1, 3) := by decide +kernel
theorem dX7_chooseNight_100 : decode cX7_chooseNight 100 = .ok (.goto (-28), 3) := by decide +kernel
theorem dX7_chooseNight_103 : decode cX7_chooseNight 103 = .ok (.iinc 1 1, 3) := by decide +kernel
theorem dX7_chooseNight_106 : decode cX7_chooseNight 106 = .ok (.goto (-65), 3) := by decide +kernel
theorem dX7_chooseNight_109 : decode cX7_chooseNight 109 = .ok (.return_, 1) := by decide +kernel
theorem dX7_mostInOneCell_0 : decode cX7_mostInOneCell 0 = .ok (.iconst 0, 1) := by decide +kernel
theorem dX7_mostInOneCell_1 : decode cX7_mostInOneCell 1 = .ok (.istore_n 1, 1) := by decide +kernel
theorem dX7_mostInOneCell_2 : decode cX7_mostInOneCell 2 = .ok (.iload_n 1, 1) := by decide +kernel
theorem dX7_mostInOneCell_3 : decode cX7_mostInOneCell 3 = .ok (.bipush 25, 2) := by decide +kernel
theorem dX7_mostInOneCell_5 : decode cX7_mostInOneCell 5 = .ok (.if_icmp .ge 16, 3) := by decide +kernel
theorem dX7_mostInOneCell_8 : decode cX7_mostInOneCell 8 = .ok (.aload_n 0, 1) := by decide +kernel
theorem dX7_mostInOneCell_9 : decode cX7_mostInOneCell 9 = .ok (.getfield 24, 3) := by decide +kernel
theorem dX7_mostInOneCell_12 : decode cX7_mostInOneCell 12 = .ok (.iload_n 1, 1) := by decide +kernel
theorem dX7_mostInOneCell_13 : decode cX7_mostInOneCell 13 = .ok (.iconst 0, 1) := by decide +kernel
theorem dX7_mostInOneCell_14 : decode cX7_mostInOneCell 14 = .ok (.iastore, 1) := by decide +kernel
theorem dX7_mostInOneCell_15 : decode cX7_mostInOneCell 15 = .ok (.iinc 1 1, 3) := by decide +kernel
theorem dX7_mostInOneCell_18 : decode cX7_mostInOneCell 18 = .ok (.goto (-16), 3) := by decide +kernel
theorem dX7_mostInOneCell_21 : decode cX7_mostInOneCell 21 = .ok (.iconst 0, 1) := by decide +kernel
theorem dX7_mostInOneCell_22 : decode cX7_mostInOneCell 22 = .ok (.istore_n 1, 1) := by decide +kernel
theorem dX7_mostInOneCell_23 : decode cX7_mostInOneCell 23 = .ok (.iconst 0, 1) := by decide +kernel
theorem dX7_mostInOneCell_24 : decode cX7_mostInOneCell 24 = .ok (.istore_n 2, 1) := by decide +kernel
theorem dX7_mostInOneCell_25 : decode cX7_mostInOneCell 25 = .ok (.iload_n 2, 1) := by decide +kernel
theorem dX7_mostInOneCell_26 : decode cX7_mostInOneCell 26 = .ok (.aload_n 0, 1) := by decide +kernel
theorem dX7_mostInOneCell_27 : decode cX7_mostInOneCell 27 = .ok (.getfield 43, 3) := by decide +kernel
theorem dX7_mostInOneCell_30 : decode cX7_mostInOneCell 30 = .ok (.if_icmp .ge 39, 3) := by decide +kernel
theorem dX7_mostInOneCell_33 : decode cX7_mostInOneCell 33 = .ok (.aload_n 0, 1) := by decide +kernel
theorem dX7_mostInOneCell_34 : decode cX7_mostInOneCell 34 = .ok (.getfield 18, 3) := by decide +kernel
theorem dX7_mostInOneCell_37 : decode cX7_mostInOneCell 37 = .ok (.iload_n 2, 1) := by decide +kernel
theorem dX7_mostInOneCell_38 : decode cX7_mostInOneCell 38 = .ok (.iaload, 1) := by decide +kernel
theorem dX7_mostInOneCell_39 : decode cX7_mostInOneCell 39 = .ok (.iconst 4, 1) := by decide +kernel
theorem dX7_mostInOneCell_40 : decode cX7_mostInOneCell 40 = .ok (.idiv, 1) := by decide +kernel
theorem dX7_mostInOneCell_41 : decode cX7_mostInOneCell 41 = .ok (.istore_n 3, 1) := by decide +kernel
theorem dX7_mostInOneCell_42 : decode cX7_mostInOneCell 42 = .ok (.aload_n 0, 1) := by decide +kernel
theorem dX7_mostInOneCell_43 : decode cX7_mostInOneCell 43 = .ok (.getfield 24, 3) := by decide +kernel
theorem dX7_mostInOneCell_46 : decode cX7_mostInOneCell 46 = .ok (.iload_n 3, 1) := by decide +kernel
theorem dX7_mostInOneCell_47 : decode cX7_mostInOneCell 47 = .ok (.dup2, 1) := by decide +kernel
theorem dX7_mostInOneCell_48 : decode cX7_mostInOneCell 48 = .ok (.iaload, 1) := by decide +kernel
theorem dX7_mostInOneCell_49 : decode cX7_mostInOneCell 49 = .ok (.iconst 1, 1) := by decide +kernel
theorem dX7_mostInOneCell_50 : decode cX7_mostInOneCell 50 = .ok (.iadd, 1) := by decide +kernel
theorem dX7_mostInOneCell_51 : decode cX7_mostInOneCell 51 = .ok (.iastore, 1) := by decide +kernel
theorem dX7_mostInOneCell_52 : decode cX7_mostInOneCell 52 = .ok (.iload_n 1, 1) := by decide +kernel
theorem dX7_mostInOneCell_53 : decode cX7_mostInOneCell 53 = .ok (.aload_n 0, 1) := by decide +kernel
theorem dX7_mostInOneCell_54 : decode cX7_mostInOneCell 54 = .ok (.getfield 24, 3) := by decide +kernel
theorem dX7_mostInOneCell_57 : decode cX7_mostInOneCell 57 = .ok (.iload_n 3, 1) := by decide +kernel
theorem dX7_mostInOneCell_58 : decode cX7_mostInOneCell 58 = .ok (.iaload, 1) := by decide +kernel
theorem dX7_mostInOneCell_59 : decode cX7_mostInOneCell 59 = .ok (.invokestatic 75, 3) := by decide +kernel
theorem dX7_mostInOneCell_62 : decode cX7_mostInOneCell 62 = .ok (.istore_n 1, 1) := by decide +kernel
theorem dX7_mostInOneCell_63 : decode cX7_mostInOneCell 63 = .ok (.iinc 2 1, 3) := by decide +kernel
theorem dX7_mostInOneCell_66 : decode cX7_mostInOneCell 66 = .ok (.goto (-41), 3) := by decide +kernel
theorem dX7_mostInOneCell_69 : decode cX7_mostInOneCell 69 = .ok (.iload_n 1, 1) := by decide +kernel
theorem dX7_mostInOneCell_70 : decode cX7_mostInOneCell 70 = .ok (.ireturn, 1) := by decide +kernel
theorem dX8_init_0 : decode cX8_init 0 = .ok (.aload_n 0, 1) := by decide +kernel
theorem dX8_init_1 : decode cX8_init 1 = .ok (.invokespecial 1, 3) := by decide +kernel
theorem dX8_init_4 : decode cX8_init 4 = .ok (.aload_n 0, 1) := by decide +kernel
theorem dX8_init_5 : decode cX8_init 5 = .ok (.new 7, 3) := by decide +kernel
theorem dX8_init_8 : decode cX8_init 8 = .ok (.dup, 1) := by decide +kernel
theorem dX8_init_9 : decode cX8_init 9 = .ok (.invokespecial 9, 3) := by decide +kernel
theorem dX8_init_12 : decode cX8_init 12 = .ok (.putfield 10, 3) := by decide +kernel
theorem dX8_init_15 : decode cX8_init 15 = .ok (.aload_n 0, 1) := by decide +kernel
theorem dX8_init_16 : decode cX8_init 16 = .ok (.new 7, 3) := by decide +kernel
theorem dX8_init_19 : decode cX8_init 19 = .ok (.dup, 1) := by decide +kernel
theorem dX8_init_20 : decode cX8_init 20 = .ok (.invokespecial 9, 3) := by decide +kernel
theorem dX8_init_23 : decode cX8_init 23 = .ok (.putfield 16, 3) := by decide +kernel
theorem dX8_init_26 : decode cX8_init 26 = .ok (.aload_n 0, 1) := by decide +kernel
theorem dX8_init_27 : decode cX8_init 27 = .ok (.iconst 2, 1) := by decide +kernel
theorem dX8_init_28 : decode cX8_init 28 = .ok (.anewarray 7, 3) := by decide +kernel
theorem dX8_init_31 : decode cX8_init 31 = .ok (.putfield 19, 3) := by decide +kernel
theorem dX8_init_34 : decode cX8_init 34 = .ok (.iconst 0, 1) := by decide +kernel
theorem dX8_init_35 : decode cX8_init 35 = .ok (.istore_n 1, 1) := by decide +kernel
theorem dX8_init_36 : decode cX8_init 36 = .ok (.iload_n 1, 1) := by decide +kernel
theorem dX8_init_37 : decode cX8_init 37 = .ok (.iconst 2, 1) := by decide +kernel
theorem dX8_init_38 : decode cX8_init 38 = .ok (.if_icmp .ge 22, 3) := by decide +kernel
theorem dX8_init_41 : decode cX8_init 41 = .ok (.aload_n 0, 1) := by decide +kernel
theorem dX8_init_42 : decode cX8_init 42 = .ok (.getfield 19, 3) := by decide +kernel
theorem dX8_init_45 : decode cX8_init 45 = .ok (.iload_n 1, 1) := by decide +kernel
theorem dX8_init_46 : decode cX8_init 46 = .ok (.new 7, 3) := by decide +kernel
theorem dX8_init_49 : decode cX8_init 49 = .ok (.dup, 1) := by decide +kernel
theorem dX8_init_50 : decode cX8_init 50 = .ok (.invokespecial 9, 3) := by decide +kernel
theorem dX8_init_53 : decode cX8_init 53 = .ok (.aastore, 1) := by decide +kernel
theorem dX8_init_54 : decode cX8_init 54 = .ok (.iinc 1 1, 3) := by decide +kernel
theorem dX8_init_57 : decode cX8_init 57 = .ok (.goto (-21), 3) := by decide +kernel
theorem dX8_init_60 : decode cX8_init 60 = .ok (.aload_n 0, 1) := by decide +kernel
theorem dX8_init_61 : decode cX8_init 61 = .ok (.iconst 2, 1) := by decide +kernel
theorem dX8_init_62 : decode cX8_init 62 = .ok (.newarray .boolean, 2) := by decide +kernel
theorem dX8_init_64 : decode cX8_init 64 = .ok (.putfield 23, 3) := by decide +kernel
theorem dX8_init_67 : decode cX8_init 67 = .ok (.aload_n 0, 1) := by decide +kernel
theorem dX8_init_68 : decode cX8_init 68 = .ok (.new 27, 3) := by decide +kernel
theorem dX8_init_71 : decode cX8_init 71 = .ok (.dup, 1) := by decide +kernel
theorem dX8_init_72 : decode cX8_init 72 = .ok (.invokespecial 29, 3) := by decide +kernel
theorem dX8_init_75 : decode cX8_init 75 = .ok (.putfield 30, 3) := by decide +kernel
theorem dX8_init_78 : decode cX8_init 78 = .ok (.aload_n 0, 1) := by decide +kernel
theorem dX8_init_79 : decode cX8_init 79 = .ok (.new 34, 3) := by decide +kernel
theorem dX8_init_82 : decode cX8_init 82 = .ok (.dup, 1) := by decide +kernel
theorem dX8_init_83 : decode cX8_init 83 = .ok (.invokespecial 36, 3) := by decide +kernel
theorem dX8_init_86 : decode cX8_init 86 = .ok (.putfield 37, 3) := by decide +kernel
theorem dX8_init_89 : decode cX8_init 89 = .ok (.aload_n 0, 1) := by decide +kernel
theorem dX8_init_90 : decode cX8_init 90 = .ok (.new 41, 3) := by decide +kernel
theorem dX8_init_93 : decode cX8_init 93 = .ok (.dup, 1) := by decide +kernel
theorem dX8_init_94 : decode cX8_init 94 = .ok (.invokespecial 43, 3) := by decide +kernel
theorem dX8_init_97 : decode cX8_init 97 = .ok (.putfield 44, 3) := by decide +kernel
theorem dX8_init_100 : decode cX8_init 100 = .ok (.aload_n 0, 1) := by decide +kernel
theorem dX8_init_101 : decode cX8_init 101 = .ok (.new 48, 3) := by decide +kernel
theorem dX8_init_104 : decode cX8_init 104 = .ok (.dup, 1) := by decide +kernel
theorem dX8_init_105 : decode cX8_init 105 = .ok (.invokespecial 50, 3) := by decide +kernel
theorem dX8_init_108 : decode cX8_init 108 = .ok (.putfield 51, 3) := by decide +kernel
theorem dX8_init_111 : decode cX8_init 111 = .ok (.aload_n 0, 1) := by decide +kernel
theorem dX8_init_112 : decode cX8_init 112 = .ok (.new 55, 3) := by decide +kernel
theorem dX8_init_115 : decode cX8_init 115 = .ok (.dup, 1) := by decide +kernel
theorem dX8_init_116 : decode cX8_init 116 = .ok (.invokespecial 57, 3) := by decide +kernel
theorem dX8_init_119 : decode cX8_init 119 = .ok (.putfield 58, 3) := by decide +kernel
theorem dX8_init_122 : decode cX8_init 122 = .ok (.aload_n 0, 1) := by decide +kernel
theorem dX8_init_123 : decode cX8_init 123 = .ok (.new 62, 3) := by decide +kernel
theorem dX8_init_126 : decode cX8_init 126 = .ok (.dup, 1) := by decide +kernel
theorem dX8_init_127 : decode cX8_init 127 = .ok (.invokespecial 64, 3) := by decide +kernel
theorem dX8_init_130 : decode cX8_init 130 = .ok (.putfield 65, 3) := by decide +kernel
theorem dX8_init_133 : decode cX8_init 133 = .ok (.aload_n 0, 1) := by decide +kernel
theorem dX8_init_134 : decode cX8_init 134 = .ok (.new 69, 3) := by decide +kernel
theorem dX8_init_137 : decode cX8_init 137 = .ok (.dup, 1) := by decide +kernel
theorem dX8_init_138 : decode cX8_init 138 = .ok (.invokespecial 71, 3) := by decide +kernel
theorem dX8_init_141 : decode cX8_init 141 = .ok (.putfield 72, 3) := by decide +kernel
theorem dX8_init_144 : decode cX8_init 144 = .ok (.return_, 1) := by decide +kernel
theorem dX8_land_0 : decode cX8_land 0 = .ok (.iload_n 1, 1) := by decide +kernel
theorem dX8_land_1 : decode cX8_land 1 = .ok (.invokestatic 76, 3) := by decide +kernel
theorem dX8_land_4 : decode cX8_land 4 = .ok (.ifCond .ne 5, 3) := by decide +kernel
theorem dX8_land_7 : decode cX8_land 7 = .ok (.iconst (-1), 1) := by decide +kernel
theorem dX8_land_8 : decode cX8_land 8 = .ok (.ireturn, 1) := by decide +kernel
theorem dX8_land_9 : decode cX8_land 9 = .ok (.iload_n 2, 1) := by decide +kernel
theorem dX8_land_10 : decode cX8_land 10 = .ok (.iconst 0, 1) := by decide +kernel
theorem dX8_land_11 : decode cX8_land 11 = .ok (.iconst 5, 1) := by decide +kernel
theorem dX8_land_12 : decode cX8_land 12 = .ok (.invokestatic 80, 3) := by decide +kernel
theorem dX8_land_15 : decode cX8_land 15 = .ok (.ifCond .ne 6, 3) := by decide +kernel
theorem dX8_land_18 : decode cX8_land 18 = .ok (.bipush (-2), 2) := by decide +kernel
theorem dX8_land_20 : decode cX8_land 20 = .ok (.ireturn, 1) := by decide +kernel
theorem dX8_land_21 : decode cX8_land 21 = .ok (.aload_n 0, 1) := by decide +kernel
theorem dX8_land_22 : decode cX8_land 22 = .ok (.getfield 10, 3) := by decide +kernel
theorem dX8_land_25 : decode cX8_land 25 = .ok (.getfield 84, 3) := by decide +kernel
theorem dX8_land_28 : decode cX8_land 28 = .ok (.iload_n 1, 1) := by decide +kernel
theorem dX8_land_29 : decode cX8_land 29 = .ok (.iaload, 1) := by decide +kernel
theorem dX8_land_30 : decode cX8_land 30 = .ok (.istore_n 3, 1) := by decide +kernel
theorem dX8_land_31 : decode cX8_land 31 = .ok (.aload_n 0, 1) := by decide +kernel
theorem dX8_land_32 : decode cX8_land 32 = .ok (.getfield 10, 3) := by decide +kernel
theorem dX8_land_35 : decode cX8_land 35 = .ok (.getfield 84, 3) := by decide +kernel
theorem dX8_land_38 : decode cX8_land 38 = .ok (.iload_n 1, 1) := by decide +kernel
theorem dX8_land_39 : decode cX8_land 39 = .ok (.iload_n 2, 1) := by decide +kernel
theorem dX8_land_40 : decode cX8_land 40 = .ok (.iastore, 1) := by decide +kernel
theorem dX8_land_41 : decode cX8_land 41 = .ok (.iload_n 3, 1) := by decide +kernel
theorem dX8_land_42 : decode cX8_land 42 = .ok (.ireturn, 1) := by decide +kernel
theorem dX8_camphor_0 : decode cX8_camphor 0 = .ok (.iload_n 1, 1) := by decide +kernel
theorem dX8_camphor_1 : decode cX8_camphor 1 = .ok (.invokestatic 76, 3) := by decide +kernel
theorem dX8_camphor_4 : decode cX8_camphor 4 = .ok (.ifCond .ne 5, 3) := by decide +kernel
theorem dX8_camphor_7 : decode cX8_camphor 7 = .ok (.iconst (-1), 1) := by decide +kernel
theorem dX8_camphor_8 : decode cX8_camphor 8 = .ok (.ireturn, 1) := by decide +kernel
theorem dX8_camphor_9 : decode cX8_camphor 9 = .ok (.iload_n 2, 1) := by decide +kernel
theorem dX8_camphor_10 : decode cX8_camphor 10 = .ok (.iconst 0, 1) := by decide +kernel
theorem dX8_camphor_11 : decode cX8_camphor 11 = .ok (.bipush 9, 2) := by decide +kernel
theorem dX8_camphor_13 : decode cX8_camphor 13 = .ok (.invokestatic 80, 3) := by decide +kernel
theorem dX8_camphor_16 : decode cX8_camphor 16 = .ok (.ifCond .ne 6, 3) := by decide +kernel
theorem dX8_camphor_19 : decode cX8_camphor 19 = .ok (.bipush (-2), 2) := by decide +kernel
theorem dX8_camphor_21 : decode cX8_camphor 21 = .ok (.ireturn, 1) := by decide +kernel
theorem dX8_camphor_22 : decode cX8_camphor 22 = .ok (.aload_n 0, 1) := by decide +kernel
theorem dX8_camphor_23 : decode cX8_camphor 23 = .ok (.getfield 10, 3) := by decide +kernel
theorem dX8_camphor_26 : decode cX8_camphor 26 = .ok (.getfield 88, 3) := by decide +kernel
theorem dX8_camphor_29 : decode cX8_camphor 29 = .ok (.iload_n 1, 1) := by decide +kernel
theorem dX8_camphor_30 : decode cX8_camphor 30 = .ok (.iaload, 1) := by decide +kernel
theorem dX8_camphor_31 : decode cX8_camphor 31 = .ok (.istore_n 3, 1) := by decide +kernel
theorem dX8_camphor_32 : decode cX8_camphor 32 = .ok (.aload_n 0, 1) := by decide +kernel
theorem dX8_camphor_33 : decode cX8_camphor 33 = .ok (.getfield 10, 3) := by decide +kernel
theorem dX8_camphor_36 : decode cX8_camphor 36 = .ok (.getfield 88, 3) := by decide +kernel
theorem dX8_camphor_39 : decode cX8_camphor 39 = .ok (.iload_n 1, 1) := by decide +kernel
theorem dX8_camphor_40 : decode cX8_camphor 40 = .ok (.iload_n 2, 1) := by decide +kernel
theorem dX8_camphor_41 : decode cX8_camphor 41 = .ok (.iastore, 1) := by decide +kernel
theorem dX8_camphor_42 : decode cX8_camphor 42 = .ok (.iload_n 3, 1) := by decide +kernel
theorem dX8_camphor_43 : decode cX8_camphor 43 = .ok (.ireturn, 1) := by decide +kernel
theorem dX8_moth_0 : decode cX8_moth 0 = .ok (.iload_n 1, 1) := by decide +kernel
theorem dX8_moth_1 : decode cX8_moth 1 = .ok (.invokestatic 91, 3) := by decide +kernel
theorem dX8_moth_4 : decode cX8_moth 4 = .ok (.ifCond .eq 10, 3) := by decide +kernel
theorem dX8_moth_7 : decode cX8_moth 7 = .ok (.iload_n 2, 1) := by decide +kernel
theorem dX8_moth_8 : decode cX8_moth 8 = .ok (.invokestatic 76, 3) := by decide +kernel
theorem dX8_moth_11 : decode cX8_moth 11 = .ok (.ifCond .ne 5, 3) := by decide +kernel
theorem dX8_moth_14 : decode cX8_moth 14 = .ok (.iconst (-1), 1) := by decide +kernel
theorem dX8_moth_15 : decode cX8_moth 15 = .ok (.ireturn, 1) := by decide +kernel
theorem dX8_moth_16 : decode cX8_moth 16 = .ok (.iload_n 3, 1) := by decide +kernel
theorem dX8_moth_17 : decode cX8_moth 17 = .ok (.invokestatic 94, 3) := by decide +kernel
theorem dX8_moth_20 : decode cX8_moth 20 = .ok (.ifCond .ne 6, 3) := by decide +kernel
theorem dX8_moth_23 : decode cX8_moth 23 = .ok (.bipush (-2), 2) := by decide +kernel
theorem dX8_moth_25 : decode cX8_moth 25 = .ok (.ireturn, 1) := by decide +kernel
theorem dX8_moth_26 : decode cX8_moth 26 = .ok (.aload_n 0, 1) := by decide +kernel
theorem dX8_moth_27 : decode cX8_moth 27 = .ok (.getfield 10, 3) := by decide +kernel
theorem dX8_moth_30 : decode cX8_moth 30 = .ok (.getfield 97, 3) := by decide +kernel
theorem dX8_moth_33 : decode cX8_moth 33 = .ok (.iload_n 1, 1) := by decide +kernel
theorem dX8_moth_34 : decode cX8_moth 34 = .ok (.iconst 1, 1) := by decide +kernel
theorem dX8_moth_35 : decode cX8_moth 35 = .ok (.bastore, 1) := by decide +kernel
theorem dX8_moth_36 : decode cX8_moth 36 = .ok (.aload_n 0, 1) := by decide +kernel
theorem dX8_moth_37 : decode cX8_moth 37 = .ok (.getfield 10, 3) := by decide +kernel
theorem dX8_moth_40 : decode cX8_moth 40 = .ok (.getfield 100, 3) := by decide +kernel
theorem dX8_moth_43 : decode cX8_moth 43 = .ok (.iload_n 1, 1) := by decide +kernel
theorem dX8_moth_44 : decode cX8_moth 44 = .ok (.iload_n 2, 1) := by decide +kernel
theorem dX8_moth_45 : decode cX8_moth 45 = .ok (.iastore, 1) := by decide +kernel
theorem dX8_moth_46 : decode cX8_moth 46 = .ok (.aload_n 0, 1) := by decide +kernel
theorem dX8_moth_47 : decode cX8_moth 47 = .ok (.getfield 10, 3) := by decide +kernel
theorem dX8_moth_50 : decode cX8_moth 50 = .ok (.getfield 103, 3) := by decide +kernel
theorem dX8_moth_53 : decode cX8_moth 53 = .ok (.iload_n 1, 1) := by decide +kernel
theorem dX8_moth_54 : decode cX8_moth 54 = .ok (.iload_n 3, 1) := by decide +kernel
theorem dX8_moth_55 : decode cX8_moth 55 = .ok (.iastore, 1) := by decide +kernel
theorem dX8_moth_56 : decode cX8_moth 56 = .ok (.aload_n 0, 1) := by decide +kernel
theorem dX8_moth_57 : decode cX8_moth 57 = .ok (.getfield 10, 3) := by decide +kernel
theorem dX8_moth_60 : decode cX8_moth 60 = .ok (.invokevirtual 106, 3) := by decide +kernel
theorem dX8_moth_63 : decode cX8_moth 63 = .ok (.invokestatic 110, 3) := by decide +kernel
theorem dX8_moth_66 : decode cX8_moth 66 = .ok (.ireturn, 1) := by decide +kernel
theorem dX8_spool_0 : decode cX8_spool 0 = .ok (.iload_n 1, 1) := by decide +kernel
theorem dX8_spool_1 : decode cX8_spool 1 = .ok (.invokestatic 116, 3) := by decide +kernel
theorem dX8_spool_4 : decode cX8_spool 4 = .ok (.ifCond .ne 5, 3) := by decide +kernel
theorem dX8_spool_7 : decode cX8_spool 7 = .ok (.iconst (-1), 1) := by decide +kernel
theorem dX8_spool_8 : decode cX8_spool 8 = .ok (.ireturn, 1) := by decide +kernel
theorem dX8_spool_9 : decode cX8_spool 9 = .ok (.iload_n 2, 1) := by decide +kernel
theorem dX8_spool_10 : decode cX8_spool 10 = .ok (.iconst 0, 1) := by decide +kernel
theorem dX8_spool_11 : decode cX8_spool 11 = .ok (.bipush 99, 2) := by decide +kernel
theorem dX8_spool_13 : decode cX8_spool 13 = .ok (.invokestatic 80, 3) := by decide +kernel
theorem dX8_spool_16 : decode cX8_spool 16 = .ok (.ifCond .ne 6, 3) := by decide +kernel
theorem dX8_spool_19 : decode cX8_spool 19 = .ok (.bipush (-2), 2) := by decide +kernel
theorem dX8_spool_21 : decode cX8_spool 21 = .ok (.ireturn, 1) := by decide +kernel
theorem dX8_spool_22 : decode cX8_spool 22 = .ok (.aload_n 0, 1) := by decide +kernel
theorem dX8_spool_23 : decode cX8_spool 23 = .ok (.getfield 10, 3) := by decide +kernel
theorem dX8_spool_26 : decode cX8_spool 26 = .ok (.getfield 119, 3) := by decide +kernel
theorem dX8_spool_29 : decode cX8_spool 29 = .ok (.iload_n 1, 1) := by decide +kernel
theorem dX8_spool_30 : decode cX8_spool 30 = .ok (.iaload, 1) := by decide +kernel
theorem dX8_spool_31 : decode cX8_spool 31 = .ok (.istore_n 3, 1) := by decide +kernel
theorem dX8_spool_32 : decode cX8_spool 32 = .ok (.aload_n 0, 1) := by decide +kernel
theorem dX8_spool_33 : decode cX8_spool 33 = .ok (.getfield 10, 3) := by decide +kernel
theorem dX8_spool_36 : decode cX8_spool 36 = .ok (.getfield 119, 3) := by decide +kernel
theorem dX8_spool_39 : decode cX8_spool 39 = .ok (.iload_n 1, 1) := by decide +kernel
theorem dX8_spool_40 : decode cX8_spool 40 = .ok (.iload_n 2, 1) := by decide +kernel
theorem dX8_spool_41 : decode cX8_spool 41 = .ok (.iastore, 1) := by decide +kernel
theorem dX8_spool_42 : decode cX8_spool 42 = .ok (.iload_n 3, 1) := by decide +kernel
theorem dX8_spool_43 : decode cX8_spool 43 = .ok (.ireturn, 1) := by decide +kernel
theorem dX8_say_0 : decode cX8_say 0 = .ok (.iload_n 1, 1) := by decide +kernel
theorem dX8_say_1 : decode cX8_say 1 = .ok (.bipush 33, 2) := by decide +kernel
theorem dX8_say_3 : decode cX8_say 3 = .ok (.bipush 126, 2) := by decide +kernel
theorem dX8_say_5 : decode cX8_say 5 = .ok (.invokestatic 80, 3) := by decide +kernel
theorem dX8_say_8 : decode cX8_say 8 = .ok (.ifCond .ne 6, 3) := by decide +kernel
theorem dX8_say_11 : decode cX8_say 11 = .ok (.bipush (-2), 2) := by decide +kernel
theorem dX8_say_13 : decode cX8_say 13 = .ok (.ireturn, 1) := by decide +kernel
theorem dX8_say_14 : decode cX8_say 14 = .ok (.aload_n 0, 1) := by decide +kernel
theorem dX8_say_15 : decode cX8_say 15 = .ok (.getfield 30, 3) := by decide +kernel
theorem dX8_say_18 : decode cX8_say 18 = .ok (.iload_n 1, 1) := by decide +kernel
theorem dX8_say_19 : decode cX8_say 19 = .ok (.invokevirtual 122, 3) := by decide +kernel
theorem dX8_say_22 : decode cX8_say 22 = .ok (.ifCond .eq 13, 3) := by decide +kernel
theorem dX8_say_25 : decode cX8_say 25 = .ok (.aload_n 0, 1) := by decide +kernel
theorem dX8_say_26 : decode cX8_say 26 = .ok (.getfield 30, 3) := by decide +kernel
theorem dX8_say_29 : decode cX8_say 29 = .ok (.getfield 125, 3) := by decide +kernel
theorem dX8_say_32 : decode cX8_say 32 = .ok (.goto 5, 3) := by decide +kernel
theorem dX8_say_35 : decode cX8_say 35 = .ok (.bipush (-4), 2) := by decide +kernel
theorem dX8_say_37 : decode cX8_say 37 = .ok (.ireturn, 1) := by decide +kernel
theorem dX8_wipe_0 : decode cX8_wipe 0 = .ok (.aload_n 0, 1) := by decide +kernel
theorem dX8_wipe_1 : decode cX8_wipe 1 = .ok (.getfield 30, 3) := by decide +kernel
theorem dX8_wipe_4 : decode cX8_wipe 4 = .ok (.invokevirtual 129, 3) := by decide +kernel
theorem dX8_wipe_7 : decode cX8_wipe 7 = .ok (.ireturn, 1) := by decide +kernel
theorem dX8_fault_0 : decode cX8_fault 0 = .ok (.aload_n 0, 1) := by decide +kernel
theorem dX8_fault_1 : decode cX8_fault 1 = .ok (.getfield 30, 3) := by decide +kernel
theorem dX8_fault_4 : decode cX8_fault 4 = .ok (.invokevirtual 132, 3) := by decide +kernel
theorem dX8_fault_7 : decode cX8_fault 7 = .ok (.ireturn, 1) := by decide +kernel
theorem dX8_judge_0 : decode cX8_judge 0 = .ok (.iload_n 1, 1) := by decide +kernel
theorem dX8_judge_1 : decode cX8_judge 1 = .ok (.iconst 0, 1) := by decide +kernel
theorem dX8_judge_2 : decode cX8_judge 2 = .ok (.iconst 1, 1) := by decide +kernel
theorem dX8_judge_3 : decode cX8_judge 3 = .ok (.invokestatic 80, 3) := by decide +kernel
theorem dX8_judge_6 : decode cX8_judge 6 = .ok (.ifCond .ne 6, 3) := by decide +kernel
theorem dX8_judge_9 : decode cX8_judge 9 = .ok (.bipush (-2), 2) := by decide +kernel
theorem dX8_judge_11 : decode cX8_judge 11 = .ok (.ireturn, 1) := by decide +kernel
theorem dX8_judge_12 : decode cX8_judge 12 = .ok (.aload_n 0, 1) := by decide +kernel
theorem dX8_judge_13 : decode cX8_judge 13 = .ok (.getfield 30, 3) := by decide +kernel
theorem dX8_judge_16 : decode cX8_judge 16 = .ok (.invokevirtual 132, 3) := by decide +kernel
theorem dX8_judge_19 : decode cX8_judge 19 = .ok (.bipush (-6), 2) := by decide +kernel
theorem dX8_judge_21 : decode cX8_judge 21 = .ok (.if_icmp .eq 6, 3) := by decide +kernel
theorem dX8_judge_24 : decode cX8_judge 24 = .ok (.bipush (-5), 2) := by decide +kernel
theorem dX8_judge_26 : decode cX8_judge 26 = .ok (.ireturn, 1) := by decide +kernel
theorem dX8_judge_27 : decode cX8_judge 27 = .ok (.aload_n 0, 1) := by decide +kernel
theorem dX8_judge_28 : decode cX8_judge 28 = .ok (.getfield 37, 3) := by decide +kernel
theorem dX8_judge_31 : decode cX8_judge 31 = .ok (.aload_n 0, 1) := by decide +kernel
theorem dX8_judge_32 : decode cX8_judge 32 = .ok (.getfield 30, 3) := by decide +kernel
theorem dX8_judge_35 : decode cX8_judge 35 = .ok (.aload_n 0, 1) := by decide +kernel
theorem dX8_judge_36 : decode cX8_judge 36 = .ok (.getfield 10, 3) := by decide +kernel
theorem dX8_judge_39 : decode cX8_judge 39 = .ok (.invokevirtual 135, 3) := by decide +kernel
theorem dX8_judge_42 : decode cX8_judge 42 = .ok (.aload_n 0, 1) := by decide +kernel
theorem dX8_judge_43 : decode cX8_judge 43 = .ok (.getfield 37, 3) := by decide +kernel
theorem dX8_judge_46 : decode cX8_judge 46 = .ok (.getfield 139, 3) := by decide +kernel
theorem dX8_judge_49 : decode cX8_judge 49 = .ok (.ifCond .ne 6, 3) := by decide +kernel
theorem dX8_judge_52 : decode cX8_judge 52 = .ok (.bipush (-6), 2) := by decide +kernel
theorem dX8_judge_54 : decode cX8_judge 54 = .ok (.ireturn, 1) := by decide +kernel
theorem dX8_judge_55 : decode cX8_judge 55 = .ok (.iload_n 1, 1) := by decide +kernel
theorem dX8_judge_56 : decode cX8_judge 56 = .ok (.ifCond .ne 13, 3) := by decide +kernel
theorem dX8_judge_59 : decode cX8_judge 59 = .ok (.aload_n 0, 1) := by decide +kernel
theorem dX8_judge_60 : decode cX8_judge 60 = .ok (.getfield 37, 3) := by decide +kernel
theorem dX8_judge_63 : decode cX8_judge 63 = .ok (.getfield 142, 3) := by decide +kernel
theorem dX8_judge_66 : decode cX8_judge 66 = .ok (.goto 10, 3) := by decide +kernel
theorem dX8_judge_69 : decode cX8_judge 69 = .ok (.aload_n 0, 1) := by decide +kernel
theorem dX8_judge_70 : decode cX8_judge 70 = .ok (.getfield 37, 3) := by decide +kernel
theorem dX8_judge_73 : decode cX8_judge 73 = .ok (.getfield 139, 3) := by decide +kernel
theorem dX8_judge_76 : decode cX8_judge 76 = .ok (.ireturn, 1) := by decide +kernel
theorem dX8_done_0 : decode cX8_done 0 = .ok (.aload_n 0, 1) := by decide +kernel
theorem dX8_done_1 : decode cX8_done 1 = .ok (.invokevirtual 145, 3) := by decide +kernel
theorem dX8_done_4 : decode cX8_done 4 = .ok (.ifCond .ne 6, 3) := by decide +kernel
theorem dX8_done_7 : decode cX8_done 7 = .ok (.bipush (-5), 2) := by decide +kernel
theorem dX8_done_9 : decode cX8_done 9 = .ok (.ireturn, 1) := by decide +kernel
theorem dX8_done_10 : decode cX8_done 10 = .ok (.aload_n 0, 1) := by decide +kernel
theorem dX8_done_11 : decode cX8_done 11 = .ok (.getfield 10, 3) := by decide +kernel
theorem dX8_done_14 : decode cX8_done 14 = .ok (.aload_n 0, 1) := by decide +kernel
theorem dX8_done_15 : decode cX8_done 15 = .ok (.getfield 37, 3) := by decide +kernel
theorem dX8_done_18 : decode cX8_done 18 = .ok (.getfield 149, 3) := by decide +kernel
theorem dX8_done_21 : decode cX8_done 21 = .ok (.invokevirtual 152, 3) := by decide +kernel
theorem dX8_done_24 : decode cX8_done 24 = .ok (.aload_n 0, 1) := by decide +kernel
theorem dX8_done_25 : decode cX8_done 25 = .ok (.getfield 30, 3) := by decide +kernel
theorem dX8_done_28 : decode cX8_done 28 = .ok (.invokevirtual 129, 3) := by decide +kernel
theorem dX8_done_31 : decode cX8_done 31 = .ok (.pop, 1) := by decide +kernel
theorem dX8_done_32 : decode cX8_done 32 = .ok (.aload_n 0, 1) := by decide +kernel
theorem dX8_done_33 : decode cX8_done 33 = .ok (.getfield 37, 3) := by decide +kernel
theorem dX8_done_36 : decode cX8_done 36 = .ok (.getfield 142, 3) := by decide +kernel
theorem dX8_done_39 : decode cX8_done 39 = .ok (.ireturn, 1) := by decide +kernel
theorem dX8_behind_0 : decode cX8_behind 0 = .ok (.iload_n 1, 1) := by decide +kernel
theorem dX8_behind_1 : decode cX8_behind 1 = .ok (.invokestatic 76, 3) := by decide +kernel
theorem dX8_behind_4 : decode cX8_behind 4 = .ok (.ifCond .ne 5, 3) := by decide +kernel
theorem dX8_behind_7 : decode cX8_behind 7 = .ok (.iconst (-1), 1) := by decide +kernel
theorem dX8_behind_8 : decode cX8_behind 8 = .ok (.ireturn, 1) := by decide +kernel
theorem dX8_behind_9 : decode cX8_behind 9 = .ok (.iload_n 2, 1) := by decide +kernel
theorem dX8_behind_10 : decode cX8_behind 10 = .ok (.iconst 0, 1) := by decide +kernel
theorem dX8_behind_11 : decode cX8_behind 11 = .ok (.iconst 1, 1) := by decide +kernel
theorem dX8_behind_12 : decode cX8_behind 12 = .ok (.invokestatic 80, 3) := by decide +kernel
theorem dX8_behind_15 : decode cX8_behind 15 = .ok (.ifCond .ne 6, 3) := by decide +kernel
theorem dX8_behind_18 : decode cX8_behind 18 = .ok (.bipush (-2), 2) := by decide +kernel
theorem dX8_behind_20 : decode cX8_behind 20 = .ok (.ireturn, 1) := by decide +kernel
theorem dX8_behind_21 : decode cX8_behind 21 = .ok (.aload_n 0, 1) := by decide +kernel
theorem dX8_behind_22 : decode cX8_behind 22 = .ok (.invokevirtual 145, 3) := by decide +kernel
theorem dX8_behind_25 : decode cX8_behind 25 = .ok (.ifCond .ne 6, 3) := by decide +kernel
theorem dX8_behind_28 : decode cX8_behind 28 = .ok (.bipush (-5), 2) := by decide +kernel
theorem dX8_behind_30 : decode cX8_behind 30 = .ok (.ireturn, 1) := by decide +kernel
theorem dX8_behind_31 : decode cX8_behind 31 = .ok (.iload_n 2, 1) := by decide +kernel
theorem dX8_behind_32 : decode cX8_behind 32 = .ok (.ifCond .ne 18, 3) := by decide +kernel
theorem dX8_behind_35 : decode cX8_behind 35 = .ok (.aload_n 0, 1) := by decide +kernel
theorem dX8_behind_36 : decode cX8_behind 36 = .ok (.getfield 37, 3) := by decide +kernel
theorem dX8_behind_39 : decode cX8_behind 39 = .ok (.getfield 149, 3) := by decide +kernel
theorem dX8_behind_42 : decode cX8_behind 42 = .ok (.getfield 84, 3) := by decide +kernel
theorem dX8_behind_45 : decode cX8_behind 45 = .ok (.iload_n 1, 1) := by decide +kernel
theorem dX8_behind_46 : decode cX8_behind 46 = .ok (.iaload, 1) := by decide +kernel
theorem dX8_behind_47 : decode cX8_behind 47 = .ok (.goto 15, 3) := by decide +kernel
theorem dX8_behind_50 : decode cX8_behind 50 = .ok (.aload_n 0, 1) := by decide +kernel
theorem dX8_behind_51 : decode cX8_behind 51 = .ok (.getfield 37, 3) := by decide +kernel
theorem dX8_behind_54 : decode cX8_behind 54 = .ok (.getfield 149, 3) := by decide +kernel
theorem dX8_behind_57 : decode cX8_behind 57 = .ok (.getfield 88, 3) := by decide +kernel
theorem dX8_behind_60 : decode cX8_behind 60 = .ok (.iload_n 1, 1) := by decide +kernel
theorem dX8_behind_61 : decode cX8_behind 61 = .ok (.iaload, 1) := by decide +kernel
theorem dX8_behind_62 : decode cX8_behind 62 = .ok (.ireturn, 1) := by decide +kernel
theorem dX8_flies_0 : decode cX8_flies 0 = .ok (.aload_n 0, 1) := by decide +kernel
theorem dX8_flies_1 : decode cX8_flies 1 = .ok (.getfield 10, 3) := by decide +kernel
theorem dX8_flies_4 : decode cX8_flies 4 = .ok (.iload_n 1, 1) := by decide +kernel
theorem dX8_flies_5 : decode cX8_flies 5 = .ok (.invokevirtual 156, 3) := by decide +kernel
theorem dX8_flies_8 : decode cX8_flies 8 = .ok (.ifCond .ne 5, 3) := by decide +kernel
theorem dX8_flies_11 : decode cX8_flies 11 = .ok (.iconst (-1), 1) := by decide +kernel
theorem dX8_flies_12 : decode cX8_flies 12 = .ok (.ireturn, 1) := by decide +kernel
theorem dX8_flies_13 : decode cX8_flies 13 = .ok (.iload_n 2, 1) := by decide +kernel
theorem dX8_flies_14 : decode cX8_flies 14 = .ok (.iconst 0, 1) := by decide +kernel
theorem dX8_flies_15 : decode cX8_flies 15 = .ok (.iconst 1, 1) := by decide +kernel
theorem dX8_flies_16 : decode cX8_flies 16 = .ok (.invokestatic 80, 3) := by decide +kernel
theorem dX8_flies_19 : decode cX8_flies 19 = .ok (.ifCond .ne 6, 3) := by decide +kernel
theorem dX8_flies_22 : decode cX8_flies 22 = .ok (.bipush (-2), 2) := by decide +kernel
theorem dX8_flies_24 : decode cX8_flies 24 = .ok (.ireturn, 1) := by decide +kernel
theorem dX8_flies_25 : decode cX8_flies 25 = .ok (.aload_n 0, 1) := by decide +kernel
theorem dX8_flies_26 : decode cX8_flies 26 = .ok (.invokevirtual 145, 3) := by decide +kernel
theorem dX8_flies_29 : decode cX8_flies 29 = .ok (.ifCond .ne 6, 3) := by decide +kernel
theorem dX8_flies_32 : decode cX8_flies 32 = .ok (.bipush (-5), 2) := by decide +kernel
theorem dX8_flies_34 : decode cX8_flies 34 = .ok (.ireturn, 1) := by decide +kernel
theorem dX8_flies_35 : decode cX8_flies 35 = .ok (.aload_n 0, 1) := by decide +kernel
theorem dX8_flies_36 : decode cX8_flies 36 = .ok (.getfield 37, 3) := by decide +kernel
theorem dX8_flies_39 : decode cX8_flies 39 = .ok (.getfield 149, 3) := by decide +kernel
theorem dX8_flies_42 : decode cX8_flies 42 = .ok (.iload_n 1, 1) := by decide +kernel
theorem dX8_flies_43 : decode cX8_flies 43 = .ok (.invokevirtual 156, 3) := by decide +kernel
theorem dX8_flies_46 : decode cX8_flies 46 = .ok (.ifCond .ne 6, 3) := by decide +kernel
theorem dX8_flies_49 : decode cX8_flies 49 = .ok (.bipush (-6), 2) := by decide +kernel
theorem dX8_flies_51 : decode cX8_flies 51 = .ok (.ireturn, 1) := by decide +kernel
theorem dX8_flies_52 : decode cX8_flies 52 = .ok (.iload_n 2, 1) := by decide +kernel
theorem dX8_flies_53 : decode cX8_flies 53 = .ok (.ifCond .ne 18, 3) := by decide +kernel
theorem dX8_flies_56 : decode cX8_flies 56 = .ok (.aload_n 0, 1) := by decide +kernel
theorem dX8_flies_57 : decode cX8_flies 57 = .ok (.getfield 37, 3) := by decide +kernel
theorem dX8_flies_60 : decode cX8_flies 60 = .ok (.getfield 149, 3) := by decide +kernel
theorem dX8_flies_63 : decode cX8_flies 63 = .ok (.getfield 100, 3) := by decide +kernel
theorem dX8_flies_66 : decode cX8_flies 66 = .ok (.iload_n 1, 1) := by decide +kernel
theorem dX8_flies_67 : decode cX8_flies 67 = .ok (.iaload, 1) := by decide +kernel
theorem dX8_flies_68 : decode cX8_flies 68 = .ok (.goto 15, 3) := by decide +kernel
theorem dX8_flies_71 : decode cX8_flies 71 = .ok (.aload_n 0, 1) := by decide +kernel
theorem dX8_flies_72 : decode cX8_flies 72 = .ok (.getfield 37, 3) := by decide +kernel
theorem dX8_flies_75 : decode cX8_flies 75 = .ok (.getfield 149, 3) := by decide +kernel
theorem dX8_flies_78 : decode cX8_flies 78 = .ok (.getfield 103, 3) := by decide +kernel
theorem dX8_flies_81 : decode cX8_flies 81 = .ok (.iload_n 1, 1) := by decide +kernel
theorem dX8_flies_82 : decode cX8_flies 82 = .ok (.iaload, 1) := by decide +kernel
theorem dX8_flies_83 : decode cX8_flies 83 = .ok (.ireturn, 1) := by decide +kernel
theorem dX8_then_0 : decode cX8_then 0 = .ok (.iload_n 1, 1) := by decide +kernel
theorem dX8_then_1 : decode cX8_then 1 = .ok (.iconst 0, 1) := by decide +kernel
theorem dX8_then_2 : decode cX8_then 2 = .ok (.iconst 4, 1) := by decide +kernel
theorem dX8_then_3 : decode cX8_then 3 = .ok (.invokestatic 80, 3) := by decide +kernel
theorem dX8_then_6 : decode cX8_then 6 = .ok (.ifCond .ne 6, 3) := by decide +kernel
theorem dX8_then_9 : decode cX8_then 9 = .ok (.bipush (-2), 2) := by decide +kernel
theorem dX8_then_11 : decode cX8_then 11 = .ok (.ireturn, 1) := by decide +kernel
theorem dX8_then_12 : decode cX8_then 12 = .ok (.aload_n 0, 1) := by decide +kernel
theorem dX8_then_13 : decode cX8_then 13 = .ok (.invokevirtual 145, 3) := by decide +kernel
theorem dX8_then_16 : decode cX8_then 16 = .ok (.ifCond .ne 6, 3) := by decide +kernel
theorem dX8_then_19 : decode cX8_then 19 = .ok (.bipush (-5), 2) := by decide +kernel
theorem dX8_then_21 : decode cX8_then 21 = .ok (.ireturn, 1) := by decide +kernel
theorem dX8_then_22 : decode cX8_then 22 = .ok (.iload_n 1, 1) := by decide +kernel
theorem dX8_then_23 : decode cX8_then 23 = .ok (.tableswitch 71 0 3 #[29, 41, 52, 63], 29) := by decide +kernel
theorem dX8_then_52 : decode cX8_then 52 = .ok (.aload_n 0, 1) := by decide +kernel
theorem dX8_then_53 : decode cX8_then 53 = .ok (.getfield 37, 3) := by decide +kernel
theorem dX8_then_56 : decode cX8_then 56 = .ok (.getfield 149, 3) := by decide +kernel
theorem dX8_then_59 : decode cX8_then 59 = .ok (.iconst 0, 1) := by decide +kernel
theorem dX8_then_60 : decode cX8_then 60 = .ok (.invokevirtual 159, 3) := by decide +kernel
theorem dX8_then_63 : decode cX8_then 63 = .ok (.ireturn, 1) := by decide +kernel
theorem dX8_then_64 : decode cX8_then 64 = .ok (.aload_n 0, 1) := by decide +kernel
theorem dX8_then_65 : decode cX8_then 65 = .ok (.getfield 37, 3) := by decide +kernel
theorem dX8_then_68 : decode cX8_then 68 = .ok (.getfield 149, 3) := by decide +kernel
theorem dX8_then_71 : decode cX8_then 71 = .ok (.invokevirtual 162, 3) := by decide +kernel
theorem dX8_then_74 : decode cX8_then 74 = .ok (.ireturn, 1) := by decide +kernel
theorem dX8_then_75 : decode cX8_then 75 = .ok (.aload_n 0, 1) := by decide +kernel
theorem dX8_then_76 : decode cX8_then 76 = .ok (.getfield 37, 3) := by decide +kernel
theorem dX8_then_79 : decode cX8_then 79 = .ok (.getfield 149, 3) := by decide +kernel
theorem dX8_then_82 : decode cX8_then 82 = .ok (.getfield 165, 3) := by decide +kernel
theorem dX8_then_85 : decode cX8_then 85 = .ok (.ireturn, 1) := by decide +kernel
theorem dX8_then_86 : decode cX8_then 86 = .ok (.aload_n 0, 1) := by decide +kernel
theorem dX8_then_87 : decode cX8_then 87 = .ok (.getfield 37, 3) := by decide +kernel
theorem dX8_then_90 : decode cX8_then 90 = .ok (.getfield 168, 3) := by decide +kernel
theorem dX8_then_93 : decode cX8_then 93 = .ok (.ireturn, 1) := by decide +kernel
theorem dX8_then_94 : decode cX8_then 94 = .ok (.aload_n 0, 1) := by decide +kernel
theorem dX8_then_95 : decode cX8_then 95 = .ok (.getfield 37, 3) := by decide +kernel
theorem dX8_then_98 : decode cX8_then 98 = .ok (.getfield 171, 3) := by decide +kernel
theorem dX8_then_101 : decode cX8_then 101 = .ok (.ireturn, 1) := by decide +kernel
theorem dX8_road_0 : decode cX8_road 0 = .ok (.iload_n 1, 1) := by decide +kernel
theorem dX8_road_1 : decode cX8_road 1 = .ok (.invokestatic 76, 3) := by decide +kernel
theorem dX8_road_4 : decode cX8_road 4 = .ok (.ifCond .eq 10, 3) := by decide +kernel
theorem dX8_road_7 : decode cX8_road 7 = .ok (.iload_n 2, 1) := by decide +kernel
theorem dX8_road_8 : decode cX8_road 8 = .ok (.invokestatic 76, 3) := by decide +kernel
theorem dX8_road_11 : decode cX8_road 11 = .ok (.ifCond .ne 5, 3) := by decide +kernel
theorem dX8_road_14 : decode cX8_road 14 = .ok (.iconst (-1), 1) := by decide +kernel
theorem dX8_road_15 : decode cX8_road 15 = .ok (.ireturn, 1) := by decide +kernel
theorem dX8_road_16 : decode cX8_road 16 = .ok (.aload_n 0, 1) := by decide +kernel
theorem dX8_road_17 : decode cX8_road 17 = .ok (.getfield 44, 3) := by decide +kernel
theorem dX8_road_20 : decode cX8_road 20 = .ok (.aload_n 0, 1) := by decide +kernel
theorem dX8_road_21 : decode cX8_road 21 = .ok (.getfield 10, 3) := by decide +kernel
theorem dX8_road_24 : decode cX8_road 24 = .ok (.getfield 84, 3) := by decide +kernel
theorem dX8_road_27 : decode cX8_road 27 = .ok (.iload_n 1, 1) := by decide +kernel
theorem dX8_road_28 : decode cX8_road 28 = .ok (.iload_n 2, 1) := by decide +kernel
theorem dX8_road_29 : decode cX8_road 29 = .ok (.invokevirtual 174, 3) := by decide +kernel
theorem dX8_road_32 : decode cX8_road 32 = .ok (.istore_n 3, 1) := by decide +kernel
theorem dX8_road_33 : decode cX8_road 33 = .ok (.iload_n 3, 1) := by decide +kernel
theorem dX8_road_34 : decode cX8_road 34 = .ok (.bipush 100, 2) := by decide +kernel
theorem dX8_road_36 : decode cX8_road 36 = .ok (.if_icmp .ge 7, 3) := by decide +kernel
theorem dX8_road_39 : decode cX8_road 39 = .ok (.iload_n 3, 1) := by decide +kernel
theorem dX8_road_40 : decode cX8_road 40 = .ok (.goto 5, 3) := by decide +kernel
theorem dX8_road_43 : decode cX8_road 43 = .ok (.bipush (-6), 2) := by decide +kernel
theorem dX8_road_45 : decode cX8_road 45 = .ok (.ireturn, 1) := by decide +kernel
theorem dX8_whole_0 : decode cX8_whole 0 = .ok (.iload_n 1, 1) := by decide +kernel
theorem dX8_whole_1 : decode cX8_whole 1 = .ok (.invokestatic 76, 3) := by decide +kernel
theorem dX8_whole_4 : decode cX8_whole 4 = .ok (.ifCond .eq 10, 3) := by decide +kernel
theorem dX8_whole_7 : decode cX8_whole 7 = .ok (.iload_n 2, 1) := by decide +kernel
theorem dX8_whole_8 : decode cX8_whole 8 = .ok (.invokestatic 76, 3) := by decide +kernel
theorem dX8_whole_11 : decode cX8_whole 11 = .ok (.ifCond .ne 5, 3) := by decide +kernel
theorem dX8_whole_14 : decode cX8_whole 14 = .ok (.iconst (-1), 1) := by decide +kernel
theorem dX8_whole_15 : decode cX8_whole 15 = .ok (.ireturn, 1) := by decide +kernel
theorem dX8_whole_16 : decode cX8_whole 16 = .ok (.iload_n 3, 1) := by decide +kernel
theorem dX8_whole_17 : decode cX8_whole 17 = .ok (.iconst 0, 1) := by decide +kernel
theorem dX8_whole_18 : decode cX8_whole 18 = .ok (.iconst 1, 1) := by decide +kernel
theorem dX8_whole_19 : decode cX8_whole 19 = .ok (.invokestatic 80, 3) := by decide +kernel
theorem dX8_whole_22 : decode cX8_whole 22 = .ok (.ifCond .ne 6, 3) := by decide +kernel
theorem dX8_whole_25 : decode cX8_whole 25 = .ok (.bipush (-2), 2) := by decide +kernel
theorem dX8_whole_27 : decode cX8_whole 27 = .ok (.ireturn, 1) := by decide +kernel
theorem dX8_whole_28 : decode cX8_whole 28 = .ok (.aload_n 0, 1) := by decide +kernel
theorem dX8_whole_29 : decode cX8_whole 29 = .ok (.getfield 44, 3) := by decide +kernel
theorem dX8_whole_32 : decode cX8_whole 32 = .ok (.aload_n 0, 1) := by decide +kernel
theorem dX8_whole_33 : decode cX8_whole 33 = .ok (.getfield 10, 3) := by decide +kernel
theorem dX8_whole_36 : decode cX8_whole 36 = .ok (.getfield 84, 3) := by decide +kernel
theorem dX8_whole_39 : decode cX8_whole 39 = .ok (.iload_n 1, 1) := by decide +kernel
theorem dX8_whole_40 : decode cX8_whole 40 = .ok (.iload_n 2, 1) := by decide +kernel
theorem dX8_whole_41 : decode cX8_whole 41 = .ok (.invokevirtual 174, 3) := by decide +kernel
theorem dX8_whole_44 : decode cX8_whole 44 = .ok (.istore 4, 2) := by decide +kernel
theorem dX8_whole_46 : decode cX8_whole 46 = .ok (.iload 4, 2) := by decide +kernel
theorem dX8_whole_48 : decode cX8_whole 48 = .ok (.ldc 178, 2) := by decide +kernel
theorem dX8_whole_50 : decode cX8_whole 50 = .ok (.if_icmp .lt 6, 3) := by decide +kernel
theorem dX8_whole_53 : decode cX8_whole 53 = .ok (.bipush (-6), 2) := by decide +kernel
theorem dX8_whole_55 : decode cX8_whole 55 = .ok (.ireturn, 1) := by decide +kernel
theorem dX8_whole_56 : decode cX8_whole 56 = .ok (.iload_n 3, 1) := by decide +kernel
theorem dX8_whole_57 : decode cX8_whole 57 = .ok (.ifCond .ne 11, 3) := by decide +kernel
theorem dX8_whole_60 : decode cX8_whole 60 = .ok (.iload 4, 2) := by decide +kernel
theorem dX8_whole_62 : decode cX8_whole 62 = .ok (.bipush 100, 2) := by decide +kernel
theorem dX8_whole_64 : decode cX8_whole 64 = .ok (.idiv, 1) := by decide +kernel
theorem dX8_whole_65 : decode cX8_whole 65 = .ok (.goto 8, 3) := by decide +kernel
theorem dX8_whole_68 : decode cX8_whole 68 = .ok (.iload 4, 2) := by decide +kernel
theorem dX8_whole_70 : decode cX8_whole 70 = .ok (.bipush 100, 2) := by decide +kernel
theorem dX8_whole_72 : decode cX8_whole 72 = .ok (.irem, 1) := by decide +kernel
theorem dX8_whole_73 : decode cX8_whole 73 = .ok (.ireturn, 1) := by decide +kernel
theorem dX8_camphored_0 : decode cX8_camphored 0 = .ok (.iload_n 1, 1) := by decide +kernel
theorem dX8_camphored_1 : decode cX8_camphored 1 = .ok (.invokestatic 76, 3) := by decide +kernel
theorem dX8_camphored_4 : decode cX8_camphored 4 = .ok (.ifCond .ne 5, 3) := by decide +kernel
theorem dX8_camphored_7 : decode cX8_camphored 7 = .ok (.iconst (-1), 1) := by decide +kernel
theorem dX8_camphored_8 : decode cX8_camphored 8 = .ok (.ireturn, 1) := by decide +kernel
theorem dX8_camphored_9 : decode cX8_camphored 9 = .ok (.iload_n 2, 1) := by decide +kernel
theorem dX8_camphored_10 : decode cX8_camphored 10 = .ok (.iconst 0, 1) := by decide +kernel
theorem dX8_camphored_11 : decode cX8_camphored 11 = .ok (.iconst 1, 1) := by decide +kernel
theorem dX8_camphored_12 : decode cX8_camphored 12 = .ok (.invokestatic 80, 3) := by decide +kernel
theorem dX8_camphored_15 : decode cX8_camphored 15 = .ok (.ifCond .ne 6, 3) := by decide +kernel
theorem dX8_camphored_18 : decode cX8_camphored 18 = .ok (.bipush (-2), 2) := by decide +kernel
theorem dX8_camphored_20 : decode cX8_camphored 20 = .ok (.ireturn, 1) := by decide +kernel
theorem dX8_camphored_21 : decode cX8_camphored 21 = .ok (.aload_n 0, 1) := by decide +kernel
theorem dX8_camphored_22 : decode cX8_camphored 22 = .ok (.getfield 51, 3) := by decide +kernel
theorem dX8_camphored_25 : decode cX8_camphored 25 = .ok (.aload_n 0, 1) := by decide +kernel
theorem dX8_camphored_26 : decode cX8_camphored 26 = .ok (.getfield 10, 3) := by decide +kernel
theorem dX8_camphored_29 : decode cX8_camphored 29 = .ok (.invokevirtual 179, 3) := by decide +kernel
theorem dX8_camphored_32 : decode cX8_camphored 32 = .ok (.iconst 1, 1) := by decide +kernel
theorem dX8_camphored_33 : decode cX8_camphored 33 = .ok (.iload_n 1, 1) := by decide +kernel
theorem dX8_camphored_34 : decode cX8_camphored 34 = .ok (.ishl, 1) := by decide +kernel
theorem dX8_camphored_35 : decode cX8_camphored 35 = .ok (.invokevirtual 182, 3) := by decide +kernel
theorem dX8_camphored_38 : decode cX8_camphored 38 = .ok (.istore_n 3, 1) := by decide +kernel
theorem dX8_camphored_39 : decode cX8_camphored 39 = .ok (.iload_n 3, 1) := by decide +kernel
theorem dX8_camphored_40 : decode cX8_camphored 40 = .ok (.bipush (-6), 2) := by decide +kernel
theorem dX8_camphored_42 : decode cX8_camphored 42 = .ok (.if_icmp .ne 6, 3) := by decide +kernel
theorem dX8_camphored_45 : decode cX8_camphored 45 = .ok (.bipush (-6), 2) := by decide +kernel
theorem dX8_camphored_47 : decode cX8_camphored 47 = .ok (.ireturn, 1) := by decide +kernel
theorem dX8_camphored_48 : decode cX8_camphored 48 = .ok (.iload_n 2, 1) := by decide +kernel
theorem dX8_camphored_49 : decode cX8_camphored 49 = .ok (.ifCond .ne 10, 3) := by decide +kernel
theorem dX8_camphored_52 : decode cX8_camphored 52 = .ok (.iload_n 3, 1) := by decide +kernel
theorem dX8_camphored_53 : decode cX8_camphored 53 = .ok (.invokestatic 110, 3) := by decide +kernel
theorem dX8_camphored_56 : decode cX8_camphored 56 = .ok (.goto 4, 3) := by decide +kernel
theorem dX8_camphored_59 : decode cX8_camphored 59 = .ok (.iload_n 3, 1) := by decide +kernel
theorem dX8_camphored_60 : decode cX8_camphored 60 = .ok (.ireturn, 1) := by decide +kernel
theorem dX8_darned_0 : decode cX8_darned 0 = .ok (.iload_n 1, 1) := by decide +kernel
theorem dX8_darned_1 : decode cX8_darned 1 = .ok (.iconst 0, 1) := by decide +kernel
theorem dX8_darned_2 : decode cX8_darned 2 = .ok (.iconst 1, 1) := by decide +kernel
theorem dX8_darned_3 : decode cX8_darned 3 = .ok (.invokestatic 80, 3) := by decide +kernel
theorem dX8_darned_6 : decode cX8_darned 6 = .ok (.ifCond .ne 6, 3) := by decide +kernel
theorem dX8_darned_9 : decode cX8_darned 9 = .ok (.bipush (-2), 2) := by decide +kernel
theorem dX8_darned_11 : decode cX8_darned 11 = .ok (.ireturn, 1) := by decide +kernel
theorem dX8_darned_12 : decode cX8_darned 12 = .ok (.aload_n 0, 1) := by decide +kernel
theorem dX8_darned_13 : decode cX8_darned 13 = .ok (.getfield 10, 3) := by decide +kernel
theorem dX8_darned_16 : decode cX8_darned 16 = .ok (.iconst 0, 1) := by decide +kernel
theorem dX8_darned_17 : decode cX8_darned 17 = .ok (.invokevirtual 159, 3) := by decide +kernel
theorem dX8_darned_20 : decode cX8_darned 20 = .ok (.bipush 9, 2) := by decide +kernel
theorem dX8_darned_22 : decode cX8_darned 22 = .ok (.if_icmp .le 6, 3) := by decide +kernel
theorem dX8_darned_25 : decode cX8_darned 25 = .ok (.bipush (-3), 2) := by decide +kernel
theorem dX8_darned_27 : decode cX8_darned 27 = .ok (.ireturn, 1) := by decide +kernel
theorem dX8_darned_28 : decode cX8_darned 28 = .ok (.aload_n 0, 1) := by decide +kernel
theorem dX8_darned_29 : decode cX8_darned 29 = .ok (.getfield 58, 3) := by decide +kernel
theorem dX8_darned_32 : decode cX8_darned 32 = .ok (.aload_n 0, 1) := by decide +kernel
theorem dX8_darned_33 : decode cX8_darned 33 = .ok (.getfield 10, 3) := by decide +kernel
theorem dX8_darned_36 : decode cX8_darned 36 = .ok (.iconst 0, 1) := by decide +kernel
theorem dX8_darned_37 : decode cX8_darned 37 = .ok (.invokevirtual 186, 3) := by decide +kernel
theorem dX8_darned_40 : decode cX8_darned 40 = .ok (.aload_n 0, 1) := by decide +kernel
theorem dX8_darned_41 : decode cX8_darned 41 = .ok (.getfield 10, 3) := by decide +kernel
theorem dX8_darned_44 : decode cX8_darned 44 = .ok (.iconst 4, 1) := by decide +kernel
theorem dX8_darned_45 : decode cX8_darned 45 = .ok (.invokevirtual 186, 3) := by decide +kernel
theorem dX8_darned_48 : decode cX8_darned 48 = .ok (.invokevirtual 189, 3) := by decide +kernel
theorem dX8_darned_51 : decode cX8_darned 51 = .ok (.iload_n 1, 1) := by decide +kernel
theorem dX8_darned_52 : decode cX8_darned 52 = .ok (.ifCond .ne 13, 3) := by decide +kernel
theorem dX8_darned_55 : decode cX8_darned 55 = .ok (.aload_n 0, 1) := by decide +kernel
theorem dX8_darned_56 : decode cX8_darned 56 = .ok (.getfield 58, 3) := by decide +kernel
theorem dX8_darned_59 : decode cX8_darned 59 = .ok (.getfield 193, 3) := by decide +kernel
theorem dX8_darned_62 : decode cX8_darned 62 = .ok (.goto 10, 3) := by decide +kernel
theorem dX8_darned_65 : decode cX8_darned 65 = .ok (.aload_n 0, 1) := by decide +kernel
theorem dX8_darned_66 : decode cX8_darned 66 = .ok (.getfield 58, 3) := by decide +kernel
theorem dX8_darned_69 : decode cX8_darned 69 = .ok (.getfield 196, 3) := by decide +kernel
theorem dX8_darned_72 : decode cX8_darned 72 = .ok (.ireturn, 1) := by decide +kernel
theorem dX8_sheet_0 : decode cX8_sheet 0 = .ok (.iload_n 1, 1) := by decide +kernel
theorem dX8_sheet_1 : decode cX8_sheet 1 = .ok (.invokestatic 199, 3) := by decide +kernel
theorem dX8_sheet_4 : decode cX8_sheet 4 = .ok (.ifCond .eq 12, 3) := by decide +kernel
theorem dX8_sheet_7 : decode cX8_sheet 7 = .ok (.iload_n 2, 1) := by decide +kernel
theorem dX8_sheet_8 : decode cX8_sheet 8 = .ok (.iconst 0, 1) := by decide +kernel
theorem dX8_sheet_9 : decode cX8_sheet 9 = .ok (.iconst 1, 1) := by decide +kernel
theorem dX8_sheet_10 : decode cX8_sheet 10 = .ok (.invokestatic 80, 3) := by decide +kernel
theorem dX8_sheet_13 : decode cX8_sheet 13 = .ok (.ifCond .ne 6, 3) := by decide +kernel
theorem dX8_sheet_16 : decode cX8_sheet 16 = .ok (.bipush (-2), 2) := by decide +kernel
theorem dX8_sheet_18 : decode cX8_sheet 18 = .ok (.ireturn, 1) := by decide +kernel
theorem dX8_sheet_19 : decode cX8_sheet 19 = .ok (.iconst 0, 1) := by decide +kernel
theorem dX8_sheet_20 : decode cX8_sheet 20 = .ok (.istore_n 3, 1) := by decide +kernel
theorem dX8_sheet_21 : decode cX8_sheet 21 = .ok (.bipush (-6), 2) := by decide +kernel
theorem dX8_sheet_23 : decode cX8_sheet 23 = .ok (.istore 4, 2) := by decide +kernel
theorem dX8_sheet_25 : decode cX8_sheet 25 = .ok (.iconst 0, 1) := by decide +kernel
theorem dX8_sheet_26 : decode cX8_sheet 26 = .ok (.istore 5, 2) := by decide +kernel
theorem dX8_sheet_28 : decode cX8_sheet 28 = .ok (.iload 5, 2) := by decide +kernel
theorem dX8_sheet_30 : decode cX8_sheet 30 = .ok (.bipush 25, 2) := by decide +kernel
theorem dX8_sheet_32 : decode cX8_sheet 32 = .ok (.if_icmp .ge 41, 3) := by decide +kernel
theorem dX8_sheet_35 : decode cX8_sheet 35 = .ok (.aload_n 0, 1) := by decide +kernel
theorem dX8_sheet_36 : decode cX8_sheet 36 = .ok (.getfield 10, 3) := by decide +kernel
theorem dX8_sheet_39 : decode cX8_sheet 39 = .ok (.iload 5, 2) := by decide +kernel
theorem dX8_sheet_41 : decode cX8_sheet 41 = .ok (.invokevirtual 202, 3) := by decide +kernel
theorem dX8_sheet_44 : decode cX8_sheet 44 = .ok (.iload_n 1, 1) := by decide +kernel
theorem dX8_sheet_45 : decode cX8_sheet 45 = .ok (.if_icmp .ne 22, 3) := by decide +kernel
theorem dX8_sheet_48 : decode cX8_sheet 48 = .ok (.iinc 3 1, 3) := by decide +kernel
theorem dX8_sheet_51 : decode cX8_sheet 51 = .ok (.iload 4, 2) := by decide +kernel
theorem dX8_sheet_53 : decode cX8_sheet 53 = .ok (.bipush (-6), 2) := by decide +kernel
theorem dX8_sheet_55 : decode cX8_sheet 55 = .ok (.if_icmp .ne 8, 3) := by decide +kernel
theorem dX8_sheet_58 : decode cX8_sheet 58 = .ok (.iload 5, 2) := by decide +kernel
theorem dX8_sheet_60 : decode cX8_sheet 60 = .ok (.goto 5, 3) := by decide +kernel
theorem dX8_sheet_63 : decode cX8_sheet 63 = .ok (.iload 4, 2) := by decide +kernel
theorem dX8_sheet_65 : decode cX8_sheet 65 = .ok (.istore 4, 2) := by decide +kernel
theorem dX8_sheet_67 : decode cX8_sheet 67 = .ok (.iinc 5 1, 3) := by decide +kernel
theorem dX8_sheet_70 : decode cX8_sheet 70 = .ok (.goto (-42), 3) := by decide +kernel
theorem dX8_sheet_73 : decode cX8_sheet 73 = .ok (.iload_n 2, 1) := by decide +kernel
theorem dX8_sheet_74 : decode cX8_sheet 74 = .ok (.ifCond .ne 7, 3) := by decide +kernel
theorem dX8_sheet_77 : decode cX8_sheet 77 = .ok (.iload_n 3, 1) := by decide +kernel
theorem dX8_sheet_78 : decode cX8_sheet 78 = .ok (.goto 5, 3) := by decide +kernel
theorem dX8_sheet_81 : decode cX8_sheet 81 = .ok (.iload 4, 2) := by decide +kernel
theorem dX8_sheet_83 : decode cX8_sheet 83 = .ok (.ireturn, 1) := by decide +kernel
theorem dX8_seen_0 : decode cX8_seen 0 = .ok (.iload_n 2, 1) := by decide +kernel
theorem dX8_seen_1 : decode cX8_seen 1 = .ok (.invokestatic 76, 3) := by decide +kernel
theorem dX8_seen_4 : decode cX8_seen 4 = .ok (.ifCond .ne 5, 3) := by decide +kernel
theorem dX8_seen_7 : decode cX8_seen 7 = .ok (.iconst (-1), 1) := by decide +kernel
theorem dX8_seen_8 : decode cX8_seen 8 = .ok (.ireturn, 1) := by decide +kernel
theorem dX8_seen_9 : decode cX8_seen 9 = .ok (.iload_n 1, 1) := by decide +kernel
theorem dX8_seen_10 : decode cX8_seen 10 = .ok (.iconst 0, 1) := by decide +kernel
theorem dX8_seen_11 : decode cX8_seen 11 = .ok (.bipush 40, 2) := by decide +kernel
theorem dX8_seen_13 : decode cX8_seen 13 = .ok (.invokestatic 80, 3) := by decide +kernel
theorem dX8_seen_16 : decode cX8_seen 16 = .ok (.ifCond .ne 6, 3) := by decide +kernel
theorem dX8_seen_19 : decode cX8_seen 19 = .ok (.bipush (-2), 2) := by decide +kernel
theorem dX8_seen_21 : decode cX8_seen 21 = .ok (.ireturn, 1) := by decide +kernel
theorem dX8_seen_22 : decode cX8_seen 22 = .ok (.aload_n 0, 1) := by decide +kernel
theorem dX8_seen_23 : decode cX8_seen 23 = .ok (.getfield 10, 3) := by decide +kernel
theorem dX8_seen_26 : decode cX8_seen 26 = .ok (.iload_n 1, 1) := by decide +kernel
theorem dX8_seen_27 : decode cX8_seen 27 = .ok (.iload_n 2, 1) := by decide +kernel
theorem dX8_seen_28 : decode cX8_seen 28 = .ok (.invokevirtual 205, 3) := by decide +kernel
theorem dX8_seen_31 : decode cX8_seen 31 = .ok (.ifCond .eq 13, 3) := by decide +kernel
theorem dX8_seen_34 : decode cX8_seen 34 = .ok (.aload_n 0, 1) := by decide +kernel
theorem dX8_seen_35 : decode cX8_seen 35 = .ok (.getfield 10, 3) := by decide +kernel
theorem dX8_seen_38 : decode cX8_seen 38 = .ok (.getfield 209, 3) := by decide +kernel
theorem dX8_seen_41 : decode cX8_seen 41 = .ok (.goto 5, 3) := by decide +kernel
theorem dX8_seen_44 : decode cX8_seen 44 = .ok (.bipush (-4), 2) := by decide +kernel
theorem dX8_seen_46 : decode cX8_seen 46 = .ok (.ireturn, 1) := by decide +kernel
theorem dX8_forget_0 : decode cX8_forget 0 = .ok (.aload_n 0, 1) := by decide +kernel
theorem dX8_forget_1 : decode cX8_forget 1 = .ok (.getfield 10, 3) := by decide +kernel
theorem dX8_forget_4 : decode cX8_forget 4 = .ok (.getfield 209, 3) := by decide +kernel
theorem dX8_forget_7 : decode cX8_forget 7 = .ok (.istore_n 1, 1) := by decide +kernel
theorem dX8_forget_8 : decode cX8_forget 8 = .ok (.aload_n 0, 1) := by decide +kernel
theorem dX8_forget_9 : decode cX8_forget 9 = .ok (.getfield 10, 3) := by decide +kernel
theorem dX8_forget_12 : decode cX8_forget 12 = .ok (.iconst 0, 1) := by decide +kernel
theorem dX8_forget_13 : decode cX8_forget 13 = .ok (.putfield 209, 3) := by decide +kernel
theorem dX8_forget_16 : decode cX8_forget 16 = .ok (.iload_n 1, 1) := by decide +kernel
theorem dX8_forget_17 : decode cX8_forget 17 = .ok (.ireturn, 1) := by decide +kernel
theorem dX8_began_0 : decode cX8_began 0 = .ok (.aload_n 0, 1) := by decide +kernel
theorem dX8_began_1 : decode cX8_began 1 = .ok (.getfield 65, 3) := by decide +kernel
theorem dX8_began_4 : decode cX8_began 4 = .ok (.aload_n 0, 1) := by decide +kernel
theorem dX8_began_5 : decode cX8_began 5 = .ok (.getfield 10, 3) := by decide +kernel
theorem dX8_began_8 : decode cX8_began 8 = .ok (.invokevirtual 212, 3) := by decide +kernel
theorem dX8_began_11 : decode cX8_began 11 = .ok (.iload_n 1, 1) := by decide +kernel
theorem dX8_began_12 : decode cX8_began 12 = .ok (.iconst (-1), 1) := by decide +kernel
theorem dX8_began_13 : decode cX8_began 13 = .ok (.if_icmp .ne 11, 3) := by decide +kernel
theorem dX8_began_16 : decode cX8_began 16 = .ok (.aload_n 0, 1) := by decide +kernel
theorem dX8_began_17 : decode cX8_began 17 = .ok (.getfield 65, 3) := by decide +kernel
theorem dX8_began_20 : decode cX8_began 20 = .ok (.getfield 215, 3) := by decide +kernel
theorem dX8_began_23 : decode cX8_began 23 = .ok (.ireturn, 1) := by decide +kernel
theorem dX8_began_24 : decode cX8_began 24 = .ok (.iload_n 1, 1) := by decide +kernel
theorem dX8_began_25 : decode cX8_began 25 = .ok (.iconst 0, 1) := by decide +kernel
theorem dX8_began_26 : decode cX8_began 26 = .ok (.aload_n 0, 1) := by decide +kernel
theorem dX8_began_27 : decode cX8_began 27 = .ok (.getfield 65, 3) := by decide +kernel
theorem dX8_began_30 : decode cX8_began 30 = .ok (.getfield 215, 3) := by decide +kernel
theorem dX8_began_33 : decode cX8_began 33 = .ok (.iconst 1, 1) := by decide +kernel
theorem dX8_began_34 : decode cX8_began 34 = .ok (.isub, 1) := by decide +kernel
theorem dX8_began_35 : decode cX8_began 35 = .ok (.invokestatic 80, 3) := by decide +kernel
theorem dX8_began_38 : decode cX8_began 38 = .ok (.ifCond .eq 14, 3) := by decide +kernel
theorem dX8_began_41 : decode cX8_began 41 = .ok (.aload_n 0, 1) := by decide +kernel
theorem dX8_began_42 : decode cX8_began 42 = .ok (.getfield 65, 3) := by decide +kernel
theorem dX8_began_45 : decode cX8_began 45 = .ok (.iload_n 1, 1) := by decide +kernel
theorem dX8_began_46 : decode cX8_began 46 = .ok (.invokevirtual 218, 3) := by decide +kernel
theorem dX8_began_49 : decode cX8_began 49 = .ok (.goto 5, 3) := by decide +kernel
theorem dX8_began_52 : decode cX8_began 52 = .ok (.bipush (-6), 2) := by decide +kernel
theorem dX8_began_54 : decode cX8_began 54 = .ok (.ireturn, 1) := by decide +kernel
theorem dX8_ask_0 : decode cX8_ask 0 = .ok (.iload_n 1, 1) := by decide +kernel
theorem dX8_ask_1 : decode cX8_ask 1 = .ok (.iconst 0, 1) := by decide +kernel
theorem dX8_ask_2 : decode cX8_ask 2 = .ok (.iconst 1, 1) := by decide +kernel
theorem dX8_ask_3 : decode cX8_ask 3 = .ok (.invokestatic 80, 3) := by decide +kernel
theorem dX8_ask_6 : decode cX8_ask 6 = .ok (.ifCond .ne 6, 3) := by decide +kernel
theorem dX8_ask_9 : decode cX8_ask 9 = .ok (.bipush (-2), 2) := by decide +kernel
theorem dX8_ask_11 : decode cX8_ask 11 = .ok (.ireturn, 1) := by decide +kernel
theorem dX8_ask_12 : decode cX8_ask 12 = .ok (.aload_n 0, 1) := by decide +kernel
theorem dX8_ask_13 : decode cX8_ask 13 = .ok (.getfield 65, 3) := by decide +kernel
theorem dX8_ask_16 : decode cX8_ask 16 = .ok (.aload_n 0, 1) := by decide +kernel
theorem dX8_ask_17 : decode cX8_ask 17 = .ok (.getfield 10, 3) := by decide +kernel
theorem dX8_ask_20 : decode cX8_ask 20 = .ok (.invokevirtual 212, 3) := by decide +kernel
theorem dX8_ask_23 : decode cX8_ask 23 = .ok (.aload_n 0, 1) := by decide +kernel
theorem dX8_ask_24 : decode cX8_ask 24 = .ok (.getfield 65, 3) := by decide +kernel
theorem dX8_ask_27 : decode cX8_ask 27 = .ok (.getfield 215, 3) := by decide +kernel
theorem dX8_ask_30 : decode cX8_ask 30 = .ok (.ifCond .ne 6, 3) := by decide +kernel
theorem dX8_ask_33 : decode cX8_ask 33 = .ok (.bipush (-6), 2) := by decide +kernel
theorem dX8_ask_35 : decode cX8_ask 35 = .ok (.ireturn, 1) := by decide +kernel
theorem dX8_ask_36 : decode cX8_ask 36 = .ok (.aload_n 0, 1) := by decide +kernel
theorem dX8_ask_37 : decode cX8_ask 37 = .ok (.getfield 65, 3) := by decide +kernel
theorem dX8_ask_40 : decode cX8_ask 40 = .ok (.invokevirtual 221, 3) := by decide +kernel
theorem dX8_ask_43 : decode cX8_ask 43 = .ok (.iload_n 1, 1) := by decide +kernel
theorem dX8_ask_44 : decode cX8_ask 44 = .ok (.ifCond .ne 13, 3) := by decide +kernel
theorem dX8_ask_47 : decode cX8_ask 47 = .ok (.aload_n 0, 1) := by decide +kernel
theorem dX8_ask_48 : decode cX8_ask 48 = .ok (.getfield 65, 3) := by decide +kernel
theorem dX8_ask_51 : decode cX8_ask 51 = .ok (.getfield 224, 3) := by decide +kernel
theorem dX8_ask_54 : decode cX8_ask 54 = .ok (.goto 10, 3) := by decide +kernel
theorem dX8_ask_57 : decode cX8_ask 57 = .ok (.aload_n 0, 1) := by decide +kernel
theorem dX8_ask_58 : decode cX8_ask 58 = .ok (.getfield 65, 3) := by decide +kernel
theorem dX8_ask_61 : decode cX8_ask 61 = .ok (.getfield 227, 3) := by decide +kernel
theorem dX8_ask_64 : decode cX8_ask 64 = .ok (.ireturn, 1) := by decide +kernel
theorem dX8_folds_0 : decode cX8_folds 0 = .ok (.iload_n 1, 1) := by decide +kernel
theorem dX8_folds_1 : decode cX8_folds 1 = .ok (.iconst 0, 1) := by decide +kernel
theorem dX8_folds_2 : decode cX8_folds 2 = .ok (.bipush 60, 2) := by decide +kernel
theorem dX8_folds_4 : decode cX8_folds 4 = .ok (.invokestatic 80, 3) := by decide +kernel
theorem dX8_folds_7 : decode cX8_folds 7 = .ok (.ifCond .eq 12, 3) := by decide +kernel
theorem dX8_folds_10 : decode cX8_folds 10 = .ok (.iload_n 2, 1) := by decide +kernel
theorem dX8_folds_11 : decode cX8_folds 11 = .ok (.iconst 0, 1) := by decide +kernel
theorem dX8_folds_12 : decode cX8_folds 12 = .ok (.iconst 1, 1) := by decide +kernel
theorem dX8_folds_13 : decode cX8_folds 13 = .ok (.invokestatic 80, 3) := by decide +kernel
theorem dX8_folds_16 : decode cX8_folds 16 = .ok (.ifCond .ne 6, 3) := by decide +kernel
theorem dX8_folds_19 : decode cX8_folds 19 = .ok (.bipush (-2), 2) := by decide +kernel
theorem dX8_folds_21 : decode cX8_folds 21 = .ok (.ireturn, 1) := by decide +kernel
theorem dX8_folds_22 : decode cX8_folds 22 = .ok (.iload_n 1, 1) := by decide +kernel
theorem dX8_folds_23 : decode cX8_folds 23 = .ok (.invokestatic 230, 3) := by decide +kernel
theorem dX8_folds_26 : decode cX8_folds 26 = .ok (.istore_n 3, 1) := by decide +kernel
theorem dX8_folds_27 : decode cX8_folds 27 = .ok (.iload_n 2, 1) := by decide +kernel
theorem dX8_folds_28 : decode cX8_folds 28 = .ok (.ifCond .ne 15, 3) := by decide +kernel
theorem dX8_folds_31 : decode cX8_folds 31 = .ok (.iload_n 3, 1) := by decide +kernel
theorem dX8_folds_32 : decode cX8_folds 32 = .ok (.bipush (-6), 2) := by decide +kernel
theorem dX8_folds_34 : decode cX8_folds 34 = .ok (.if_icmp .ne 7, 3) := by decide +kernel
theorem dX8_folds_37 : decode cX8_folds 37 = .ok (.iconst 0, 1) := by decide +kernel
theorem dX8_folds_38 : decode cX8_folds 38 = .ok (.goto 4, 3) := by decide +kernel
theorem dX8_folds_41 : decode cX8_folds 41 = .ok (.iconst 1, 1) := by decide +kernel
theorem dX8_folds_42 : decode cX8_folds 42 = .ok (.ireturn, 1) := by decide +kernel
theorem dX8_folds_43 : decode cX8_folds 43 = .ok (.iload_n 3, 1) := by decide +kernel
theorem dX8_folds_44 : decode cX8_folds 44 = .ok (.ireturn, 1) := by decide +kernel
theorem dX8_coffee_0 : decode cX8_coffee 0 = .ok (.iload_n 1, 1) := by decide +kernel
theorem dX8_coffee_1 : decode cX8_coffee 1 = .ok (.iconst 0, 1) := by decide +kernel
theorem dX8_coffee_2 : decode cX8_coffee 2 = .ok (.bipush 9, 2) := by decide +kernel
theorem dX8_coffee_4 : decode cX8_coffee 4 = .ok (.invokestatic 80, 3) := by decide +kernel
theorem dX8_coffee_7 : decode cX8_coffee 7 = .ok (.ifCond .eq 26, 3) := by decide +kernel
theorem dX8_coffee_10 : decode cX8_coffee 10 = .ok (.iload_n 2, 1) := by decide +kernel
theorem dX8_coffee_11 : decode cX8_coffee 11 = .ok (.iconst 0, 1) := by decide +kernel
theorem dX8_coffee_12 : decode cX8_coffee 12 = .ok (.iload_n 1, 1) := by decide +kernel
theorem dX8_coffee_13 : decode cX8_coffee 13 = .ok (.invokestatic 80, 3) := by decide +kernel
theorem dX8_coffee_16 : decode cX8_coffee 16 = .ok (.ifCond .eq 17, 3) := by decide +kernel
theorem dX8_coffee_19 : decode cX8_coffee 19 = .ok (.iload 6, 2) := by decide +kernel
theorem dX8_coffee_21 : decode cX8_coffee 21 = .ok (.iconst 0, 1) := by decide +kernel
theorem dX8_coffee_22 : decode cX8_coffee 22 = .ok (.iload_n 1, 1) := by decide +kernel
theorem dX8_coffee_23 : decode cX8_coffee 23 = .ok (.invokestatic 80, 3) := by decide +kernel
theorem dX8_coffee_26 : decode cX8_coffee 26 = .ok (.ifCond .eq 7, 3) := by decide +kernel
theorem dX8_coffee_29 : decode cX8_coffee 29 = .ok (.iconst 1, 1) := by decide +kernel
theorem dX8_coffee_30 : decode cX8_coffee 30 = .ok (.goto 4, 3) := by decide +kernel
theorem dX8_coffee_33 : decode cX8_coffee 33 = .ok (.iconst 0, 1) := by decide +kernel
theorem dX8_coffee_34 : decode cX8_coffee 34 = .ok (.istore 8, 2) := by decide +kernel
theorem dX8_coffee_36 : decode cX8_coffee 36 = .ok (.iload_n 3, 1) := by decide +kernel
theorem dX8_coffee_37 : decode cX8_coffee 37 = .ok (.iconst 0, 1) := by decide +kernel
theorem dX8_coffee_38 : decode cX8_coffee 38 = .ok (.bipush 10, 2) := by decide +kernel
theorem dX8_coffee_40 : decode cX8_coffee 40 = .ok (.invokestatic 80, 3) := by decide +kernel
theorem dX8_coffee_43 : decode cX8_coffee 43 = .ok (.ifCond .eq 20, 3) := by decide +kernel
theorem dX8_coffee_46 : decode cX8_coffee 46 = .ok (.iload 4, 2) := by decide +kernel
theorem dX8_coffee_48 : decode cX8_coffee 48 = .ok (.iconst 0, 1) := by decide +kernel
theorem dX8_coffee_49 : decode cX8_coffee 49 = .ok (.bipush 10, 2) := by decide +kernel
theorem dX8_coffee_51 : decode cX8_coffee 51 = .ok (.iload_n 3, 1) := by decide +kernel
theorem dX8_coffee_52 : decode cX8_coffee 52 = .ok (.isub, 1) := by decide +kernel
theorem dX8_coffee_53 : decode cX8_coffee 53 = .ok (.invokestatic 80, 3) := by decide +kernel
theorem dX8_coffee_56 : decode cX8_coffee 56 = .ok (.ifCond .eq 7, 3) := by decide +kernel
theorem dX8_coffee_59 : decode cX8_coffee 59 = .ok (.iconst 1, 1) := by decide +kernel
theorem dX8_coffee_60 : decode cX8_coffee 60 = .ok (.goto 4, 3) := by decide +kernel
theorem dX8_coffee_63 : decode cX8_coffee 63 = .ok (.iconst 0, 1) := by decide +kernel
theorem dX8_coffee_64 : decode cX8_coffee 64 = .ok (.istore 9, 2) := by decide +kernel
theorem dX8_coffee_66 : decode cX8_coffee 66 = .ok (.iload 8, 2) := by decide +kernel
theorem dX8_coffee_68 : decode cX8_coffee 68 = .ok (.ifCond .eq 29, 3) := by decide +kernel
theorem dX8_coffee_71 : decode cX8_coffee 71 = .ok (.iload 9, 2) := by decide +kernel
theorem dX8_coffee_73 : decode cX8_coffee 73 = .ok (.ifCond .eq 24, 3) := by decide +kernel
theorem dX8_coffee_76 : decode cX8_coffee 76 = .ok (.iload 5, 2) := by decide +kernel
theorem dX8_coffee_78 : decode cX8_coffee 78 = .ok (.iconst 0, 1) := by decide +kernel
theorem dX8_coffee_79 : decode cX8_coffee 79 = .ok (.bipush 16, 2) := by decide +kernel
theorem dX8_coffee_81 : decode cX8_coffee 81 = .ok (.invokestatic 80, 3) := by decide +kernel
theorem dX8_coffee_84 : decode cX8_coffee 84 = .ok (.ifCond .eq 13, 3) := by decide +kernel
theorem dX8_coffee_87 : decode cX8_coffee 87 = .ok (.iload 7, 2) := by decide +kernel
theorem dX8_coffee_89 : decode cX8_coffee 89 = .ok (.iconst 0, 1) := by decide +kernel
theorem dX8_coffee_90 : decode cX8_coffee 90 = .ok (.iconst 1, 1) := by decide +kernel
theorem dX8_coffee_91 : decode cX8_coffee 91 = .ok (.invokestatic 80, 3) := by decide +kernel
theorem dX8_coffee_94 : decode cX8_coffee 94 = .ok (.ifCond .ne 7, 3) := by decide +kernel
theorem dX8_coffee_97 : decode cX8_coffee 97 = .ok (.ldc2_w 233, 3) := by decide +kernel
theorem dX8_coffee_100 : decode cX8_coffee 100 = .ok (.lreturn, 1) := by decide +kernel
theorem dX8_coffee_101 : decode cX8_coffee 101 = .ok (.aload_n 0, 1) := by decide +kernel
theorem dX8_coffee_102 : decode cX8_coffee 102 = .ok (.getfield 72, 3) := by decide +kernel
theorem dX8_coffee_105 : decode cX8_coffee 105 = .ok (.iload_n 2, 1) := by decide +kernel
theorem dX8_coffee_106 : decode cX8_coffee 106 = .ok (.invokevirtual 235, 3) := by decide +kernel
theorem dX8_coffee_109 : decode cX8_coffee 109 = .ok (.iconst 0, 1) := by decide +kernel
theorem dX8_coffee_110 : decode cX8_coffee 110 = .ok (.istore 10, 2) := by decide +kernel
theorem dX8_coffee_112 : decode cX8_coffee 112 = .ok (.iload 10, 2) := by decide +kernel
theorem dX8_coffee_114 : decode cX8_coffee 114 = .ok (.iload 5, 2) := by decide +kernel
theorem dX8_coffee_116 : decode cX8_coffee 116 = .ok (.if_icmp .ge 20, 3) := by decide +kernel
theorem dX8_coffee_119 : decode cX8_coffee 119 = .ok (.aload_n 0, 1) := by decide +kernel
theorem dX8_coffee_120 : decode cX8_coffee 120 = .ok (.getfield 72, 3) := by decide +kernel
theorem dX8_coffee_123 : decode cX8_coffee 123 = .ok (.iload_n 1, 1) := by decide +kernel
theorem dX8_coffee_124 : decode cX8_coffee 124 = .ok (.iload_n 3, 1) := by decide +kernel
theorem dX8_coffee_125 : decode cX8_coffee 125 = .ok (.iload 4, 2) := by decide +kernel
theorem dX8_coffee_127 : decode cX8_coffee 127 = .ok (.invokevirtual 239, 3) := by decide +kernel
theorem dX8_coffee_130 : decode cX8_coffee 130 = .ok (.iinc 10 1, 3) := by decide +kernel
theorem dX8_coffee_133 : decode cX8_coffee 133 = .ok (.goto (-21), 3) := by decide +kernel
theorem dX8_coffee_136 : decode cX8_coffee 136 = .ok (.aload_n 0, 1) := by decide +kernel
theorem dX8_coffee_137 : decode cX8_coffee 137 = .ok (.getfield 72, 3) := by decide +kernel
theorem dX8_coffee_140 : decode cX8_coffee 140 = .ok (.iload 6, 2) := by decide +kernel
theorem dX8_coffee_142 : decode cX8_coffee 142 = .ok (.invokevirtual 243, 3) := by decide +kernel
theorem dX8_coffee_145 : decode cX8_coffee 145 = .ok (.lstore 10, 2) := by decide +kernel
theorem dX8_coffee_147 : decode cX8_coffee 147 = .ok (.aload_n 0, 1) := by decide +kernel
theorem dX8_coffee_148 : decode cX8_coffee 148 = .ok (.getfield 72, 3) := by decide +kernel
theorem dX8_coffee_151 : decode cX8_coffee 151 = .ok (.getfield 247, 3) := by decide +kernel
theorem dX8_coffee_154 : decode cX8_coffee 154 = .ok (.lload 10, 2) := by decide +kernel
theorem dX8_coffee_156 : decode cX8_coffee 156 = .ok (.invokestatic 251, 3) := by decide +kernel
theorem dX8_coffee_159 : decode cX8_coffee 159 = .ok (.lstore 12, 2) := by decide +kernel
theorem dX8_coffee_161 : decode cX8_coffee 161 = .ok (.lload 12, 2) := by decide +kernel
theorem dX8_coffee_163 : decode cX8_coffee 163 = .ok (.lconst 0, 1) := by decide +kernel
theorem dX8_coffee_164 : decode cX8_coffee 164 = .ok (.lcmp, 1) := by decide +kernel
theorem dX8_coffee_165 : decode cX8_coffee 165 = .ok (.ifCond .ne 7, 3) := by decide +kernel
theorem dX8_coffee_168 : decode cX8_coffee 168 = .ok (.ldc2_w 233, 3) := by decide +kernel
theorem dX8_coffee_171 : decode cX8_coffee 171 = .ok (.lreturn, 1) := by decide +kernel
theorem dX8_coffee_172 : decode cX8_coffee 172 = .ok (.iload 7, 2) := by decide +kernel
theorem dX8_coffee_174 : decode cX8_coffee 174 = .ok (.ifCond .ne 11, 3) := by decide +kernel
theorem dX8_coffee_177 : decode cX8_coffee 177 = .ok (.lload 10, 2) := by decide +kernel
theorem dX8_coffee_179 : decode cX8_coffee 179 = .ok (.lload 12, 2) := by decide +kernel
theorem dX8_coffee_181 : decode cX8_coffee 181 = .ok (.ldiv, 1) := by decide +kernel
theorem dX8_coffee_182 : decode cX8_coffee 182 = .ok (.goto 13, 3) := by decide +kernel
theorem dX8_coffee_185 : decode cX8_coffee 185 = .ok (.aload_n 0, 1) := by decide +kernel
theorem dX8_coffee_186 : decode cX8_coffee 186 = .ok (.getfield 72, 3) := by decide +kernel
theorem dX8_coffee_189 : decode cX8_coffee 189 = .ok (.getfield 247, 3) := by decide +kernel
theorem dX8_coffee_192 : decode cX8_coffee 192 = .ok (.lload 12, 2) := by decide +kernel
theorem dX8_coffee_194 : decode cX8_coffee 194 = .ok (.ldiv, 1) := by decide +kernel
theorem dX8_coffee_195 : decode cX8_coffee 195 = .ok (.lreturn, 1) := by decide +kernel
theorem dX8_year_0 : decode cX8_year 0 = .ok (.iload_n 1, 1) := by decide +kernel
theorem dX8_year_1 : decode cX8_year 1 = .ok (.iconst 0, 1) := by decide +kernel
theorem dX8_year_2 : decode cX8_year 2 = .ok (.sipush 9999, 3) := by decide +kernel
theorem dX8_year_5 : decode cX8_year 5 = .ok (.invokestatic 80, 3) := by decide +kernel
theorem dX8_year_8 : decode cX8_year 8 = .ok (.ifCond .eq 22, 3) := by decide +kernel
theorem dX8_year_11 : decode cX8_year 11 = .ok (.iload_n 2, 1) := by decide +kernel
theorem dX8_year_12 : decode cX8_year 12 = .ok (.iconst 1, 1) := by decide +kernel
theorem dX8_year_13 : decode cX8_year 13 = .ok (.bipush 99, 2) := by decide +kernel
theorem dX8_year_15 : decode cX8_year 15 = .ok (.invokestatic 80, 3) := by decide +kernel
theorem dX8_year_18 : decode cX8_year 18 = .ok (.ifCond .eq 12, 3) := by decide +kernel
theorem dX8_year_21 : decode cX8_year 21 = .ok (.iload_n 3, 1) := by decide +kernel
theorem dX8_year_22 : decode cX8_year 22 = .ok (.iconst 0, 1) := by decide +kernel
theorem dX8_year_23 : decode cX8_year 23 = .ok (.iconst 2, 1) := by decide +kernel
theorem dX8_year_24 : decode cX8_year 24 = .ok (.invokestatic 80, 3) := by decide +kernel
theorem dX8_year_27 : decode cX8_year 27 = .ok (.ifCond .ne 6, 3) := by decide +kernel
theorem dX8_year_30 : decode cX8_year 30 = .ok (.bipush (-2), 2) := by decide +kernel
theorem dX8_year_32 : decode cX8_year 32 = .ok (.ireturn, 1) := by decide +kernel
theorem dX8_year_33 : decode cX8_year 33 = .ok (.aload_n 0, 1) := by decide +kernel
theorem dX8_year_34 : decode cX8_year 34 = .ok (.getfield 16, 3) := by decide +kernel
theorem dX8_year_37 : decode cX8_year 37 = .ok (.aload_n 0, 1) := by decide +kernel
theorem dX8_year_38 : decode cX8_year 38 = .ok (.getfield 10, 3) := by decide +kernel
theorem dX8_year_41 : decode cX8_year 41 = .ok (.invokevirtual 152, 3) := by decide +kernel
theorem dX8_year_44 : decode cX8_year 44 = .ok (.iload_n 1, 1) := by decide +kernel
theorem dX8_year_45 : decode cX8_year 45 = .ok (.istore 4, 2) := by decide +kernel
theorem dX8_year_47 : decode cX8_year 47 = .ok (.iconst 0, 1) := by decide +kernel
theorem dX8_year_48 : decode cX8_year 48 = .ok (.istore 5, 2) := by decide +kernel
theorem dX8_year_50 : decode cX8_year 50 = .ok (.iload 5, 2) := by decide +kernel
theorem dX8_year_52 : decode cX8_year 52 = .ok (.iload_n 2, 1) := by decide +kernel
theorem dX8_year_53 : decode cX8_year 53 = .ok (.if_icmp .ge 39, 3) := by decide +kernel
theorem dX8_year_56 : decode cX8_year 56 = .ok (.bipush 75, 2) := by decide +kernel
theorem dX8_year_58 : decode cX8_year 58 = .ok (.iload 4, 2) := by decide +kernel
theorem dX8_year_60 : decode cX8_year 60 = .ok (.imul, 1) := by decide +kernel
theorem dX8_year_61 : decode cX8_year 61 = .ok (.bipush 74, 2) := by decide +kernel
theorem dX8_year_63 : decode cX8_year 63 = .ok (.iadd, 1) := by decide +kernel
theorem dX8_year_64 : decode cX8_year 64 = .ok (.ldc 255, 2) := by decide +kernel
theorem dX8_year_66 : decode cX8_year 66 = .ok (.irem, 1) := by decide +kernel
theorem dX8_year_67 : decode cX8_year 67 = .ok (.istore 4, 2) := by decide +kernel
theorem dX8_year_69 : decode cX8_year 69 = .ok (.aload_n 0, 1) := by decide +kernel
theorem dX8_year_70 : decode cX8_year 70 = .ok (.getfield 16, 3) := by decide +kernel
theorem dX8_year_73 : decode cX8_year 73 = .ok (.iload 4, 2) := by decide +kernel
theorem dX8_year_75 : decode cX8_year 75 = .ok (.bipush 8, 2) := by decide +kernel
theorem dX8_year_77 : decode cX8_year 77 = .ok (.irem, 1) := by decide +kernel
theorem dX8_year_78 : decode cX8_year 78 = .ok (.iload 4, 2) := by decide +kernel
theorem dX8_year_80 : decode cX8_year 80 = .ok (.bipush 8, 2) := by decide +kernel
theorem dX8_year_82 : decode cX8_year 82 = .ok (.idiv, 1) := by decide +kernel
theorem dX8_year_83 : decode cX8_year 83 = .ok (.invokevirtual 256, 3) := by decide +kernel
theorem dX8_year_86 : decode cX8_year 86 = .ok (.iinc 5 1, 3) := by decide +kernel
theorem dX8_year_89 : decode cX8_year 89 = .ok (.goto (-39), 3) := by decide +kernel
theorem dX8_year_92 : decode cX8_year 92 = .ok (.iload_n 3, 1) := by decide +kernel
theorem dX8_year_93 : decode cX8_year 93 = .ok (.lookupswitch 44 #[(0, 27), (1, 36)], 27) := by decide +kernel
theorem dX8_year_120 : decode cX8_year 120 = .ok (.aload_n 0, 1) := by decide +kernel
theorem dX8_year_121 : decode cX8_year 121 = .ok (.getfield 16, 3) := by decide +kernel
theorem dX8_year_124 : decode cX8_year 124 = .ok (.iconst 0, 1) := by decide +kernel
theorem dX8_year_125 : decode cX8_year 125 = .ok (.invokevirtual 159, 3) := by decide +kernel
theorem dX8_year_128 : decode cX8_year 128 = .ok (.ireturn, 1) := by decide +kernel
theorem dX8_year_129 : decode cX8_year 129 = .ok (.aload_n 0, 1) := by decide +kernel
theorem dX8_year_130 : decode cX8_year 130 = .ok (.getfield 16, 3) := by decide +kernel
theorem dX8_year_133 : decode cX8_year 133 = .ok (.invokevirtual 162, 3) := by decide +kernel
theorem dX8_year_136 : decode cX8_year 136 = .ok (.ireturn, 1) := by decide +kernel
theorem dX8_year_137 : decode cX8_year 137 = .ok (.aload_n 0, 1) := by decide +kernel
theorem dX8_year_138 : decode cX8_year 138 = .ok (.getfield 16, 3) := by decide +kernel
theorem dX8_year_141 : decode cX8_year 141 = .ok (.iconst 4, 1) := by decide +kernel
theorem dX8_year_142 : decode cX8_year 142 = .ok (.invokevirtual 159, 3) := by decide +kernel
theorem dX8_year_145 : decode cX8_year 145 = .ok (.ireturn, 1) := by decide +kernel
theorem dX8_image_0 : decode cX8_image 0 = .ok (.iload_n 1, 1) := by decide +kernel
theorem dX8_image_1 : decode cX8_image 1 = .ok (.iconst 0, 1) := by decide +kernel
theorem dX8_image_2 : decode cX8_image 2 = .ok (.iconst 1, 1) := by decide +kernel
theorem dX8_image_3 : decode cX8_image 3 = .ok (.invokestatic 80, 3) := by decide +kernel
theorem dX8_image_6 : decode cX8_image 6 = .ok (.ifCond .ne 6, 3) := by decide +kernel
theorem dX8_image_9 : decode cX8_image 9 = .ok (.bipush (-2), 2) := by decide +kernel
theorem dX8_image_11 : decode cX8_image 11 = .ok (.ireturn, 1) := by decide +kernel
theorem dX8_image_12 : decode cX8_image 12 = .ok (.aload_n 0, 1) := by decide +kernel
theorem dX8_image_13 : decode cX8_image 13 = .ok (.getfield 19, 3) := by decide +kernel
theorem dX8_image_16 : decode cX8_image 16 = .ok (.iload_n 1, 1) := by decide +kernel
theorem dX8_image_17 : decode cX8_image 17 = .ok (.aaload, 1) := by decide +kernel
theorem dX8_image_18 : decode cX8_image 18 = .ok (.aload_n 0, 1) := by decide +kernel
theorem dX8_image_19 : decode cX8_image 19 = .ok (.getfield 10, 3) := by decide +kernel
theorem dX8_image_22 : decode cX8_image 22 = .ok (.invokevirtual 152, 3) := by decide +kernel
theorem dX8_image_25 : decode cX8_image 25 = .ok (.aload_n 0, 1) := by decide +kernel
theorem dX8_image_26 : decode cX8_image 26 = .ok (.getfield 23, 3) := by decide +kernel
theorem dX8_image_29 : decode cX8_image 29 = .ok (.iload_n 1, 1) := by decide +kernel
theorem dX8_image_30 : decode cX8_image 30 = .ok (.iconst 1, 1) := by decide +kernel
theorem dX8_image_31 : decode cX8_image 31 = .ok (.bastore, 1) := by decide +kernel
theorem dX8_image_32 : decode cX8_image 32 = .ok (.iconst 1, 1) := by decide +kernel
theorem dX8_image_33 : decode cX8_image 33 = .ok (.ireturn, 1) := by decide +kernel
theorem dX8_restore_0 : decode cX8_restore 0 = .ok (.iload_n 1, 1) := by decide +kernel
theorem dX8_restore_1 : decode cX8_restore 1 = .ok (.iconst 0, 1) := by decide +kernel
theorem dX8_restore_2 : decode cX8_restore 2 = .ok (.iconst 1, 1) := by decide +kernel
theorem dX8_restore_3 : decode cX8_restore 3 = .ok (.invokestatic 80, 3) := by decide +kernel
theorem dX8_restore_6 : decode cX8_restore 6 = .ok (.ifCond .ne 6, 3) := by decide +kernel
theorem dX8_restore_9 : decode cX8_restore 9 = .ok (.bipush (-2), 2) := by decide +kernel
theorem dX8_restore_11 : decode cX8_restore 11 = .ok (.ireturn, 1) := by decide +kernel
theorem dX8_restore_12 : decode cX8_restore 12 = .ok (.aload_n 0, 1) := by decide +kernel
theorem dX8_restore_13 : decode cX8_restore 13 = .ok (.getfield 23, 3) := by decide +kernel
theorem dX8_restore_16 : decode cX8_restore 16 = .ok (.iload_n 1, 1) := by decide +kernel
theorem dX8_restore_17 : decode cX8_restore 17 = .ok (.baload, 1) := by decide +kernel
theorem dX8_restore_18 : decode cX8_restore 18 = .ok (.ifCond .ne 6, 3) := by decide +kernel
theorem dX8_restore_21 : decode cX8_restore 21 = .ok (.bipush (-3), 2) := by decide +kernel
theorem dX8_restore_23 : decode cX8_restore 23 = .ok (.ireturn, 1) := by decide +kernel
theorem dX8_restore_24 : decode cX8_restore 24 = .ok (.aload_n 0, 1) := by decide +kernel
theorem dX8_restore_25 : decode cX8_restore 25 = .ok (.getfield 10, 3) := by decide +kernel
theorem dX8_restore_28 : decode cX8_restore 28 = .ok (.aload_n 0, 1) := by decide +kernel
theorem dX8_restore_29 : decode cX8_restore 29 = .ok (.getfield 19, 3) := by decide +kernel
theorem dX8_restore_32 : decode cX8_restore 32 = .ok (.iload_n 1, 1) := by decide +kernel
theorem dX8_restore_33 : decode cX8_restore 33 = .ok (.aaload, 1) := by decide +kernel
theorem dX8_restore_34 : decode cX8_restore 34 = .ok (.invokevirtual 152, 3) := by decide +kernel
theorem dX8_restore_37 : decode cX8_restore 37 = .ok (.iconst 1, 1) := by decide +kernel
theorem dX8_restore_38 : decode cX8_restore 38 = .ok (.ireturn, 1) := by decide +kernel
theorem dX8_told_0 : decode cX8_told 0 = .ok (.iload_n 1, 1) := by decide +kernel
theorem dX8_told_1 : decode cX8_told 1 = .ok (.tableswitch 76 0 4 #[35, 43, 51, 59, 68], 35) := by decide +kernel
theorem dX8_told_36 : decode cX8_told 36 = .ok (.aload_n 0, 1) := by decide +kernel
theorem dX8_told_37 : decode cX8_told 37 = .ok (.getfield 30, 3) := by decide +kernel
theorem dX8_told_40 : decode cX8_told 40 = .ok (.getfield 125, 3) := by decide +kernel
theorem dX8_told_43 : decode cX8_told 43 = .ok (.ireturn, 1) := by decide +kernel
theorem dX8_told_44 : decode cX8_told 44 = .ok (.aload_n 0, 1) := by decide +kernel
theorem dX8_told_45 : decode cX8_told 45 = .ok (.getfield 10, 3) := by decide +kernel
theorem dX8_told_48 : decode cX8_told 48 = .ok (.invokevirtual 106, 3) := by decide +kernel
theorem dX8_told_51 : decode cX8_told 51 = .ok (.ireturn, 1) := by decide +kernel
theorem dX8_told_52 : decode cX8_told 52 = .ok (.aload_n 0, 1) := by decide +kernel
theorem dX8_told_53 : decode cX8_told 53 = .ok (.getfield 10, 3) := by decide +kernel
theorem dX8_told_56 : decode cX8_told 56 = .ok (.getfield 165, 3) := by decide +kernel
theorem dX8_told_59 : decode cX8_told 59 = .ok (.ireturn, 1) := by decide +kernel
theorem dX8_told_60 : decode cX8_told 60 = .ok (.aload_n 0, 1) := by decide +kernel
theorem dX8_told_61 : decode cX8_told 61 = .ok (.getfield 10, 3) := by decide +kernel
theorem dX8_told_64 : decode cX8_told 64 = .ok (.iconst 0, 1) := by decide +kernel
theorem dX8_told_65 : decode cX8_told 65 = .ok (.invokevirtual 159, 3) := by decide +kernel
theorem dX8_told_68 : decode cX8_told 68 = .ok (.ireturn, 1) := by decide +kernel
theorem dX8_told_69 : decode cX8_told 69 = .ok (.aload_n 0, 1) := by decide +kernel
theorem dX8_told_70 : decode cX8_told 70 = .ok (.getfield 10, 3) := by decide +kernel
theorem dX8_told_73 : decode cX8_told 73 = .ok (.getfield 209, 3) := by decide +kernel
theorem dX8_told_76 : decode cX8_told 76 = .ok (.ireturn, 1) := by decide +kernel
theorem dX8_told_77 : decode cX8_told 77 = .ok (.aload_n 0, 1) := by decide +kernel
theorem dX8_told_78 : decode cX8_told 78 = .ok (.iload_n 1, 1) := by decide +kernel
theorem dX8_told_79 : decode cX8_told 79 = .ok (.invokevirtual 259, 3) := by decide +kernel
theorem dX8_told_82 : decode cX8_told 82 = .ok (.ireturn, 1) := by decide +kernel
theorem dX8_toldOfOne_0 : decode cX8_toldOfOne 0 = .ok (.iload_n 1, 1) := by decide +kernel
theorem dX8_toldOfOne_1 : decode cX8_toldOfOne 1 = .ok (.bipush 10, 2) := by decide +kernel
theorem dX8_toldOfOne_3 : decode cX8_toldOfOne 3 = .ok (.isub, 1) := by decide +kernel
theorem dX8_toldOfOne_4 : decode cX8_toldOfOne 4 = .ok (.invokestatic 116, 3) := by decide +kernel
theorem dX8_toldOfOne_7 : decode cX8_toldOfOne 7 = .ok (.ifCond .eq 16, 3) := by decide +kernel
theorem dX8_toldOfOne_10 : decode cX8_toldOfOne 10 = .ok (.aload_n 0, 1) := by decide +kernel
theorem dX8_toldOfOne_11 : decode cX8_toldOfOne 11 = .ok (.getfield 10, 3) := by decide +kernel
theorem dX8_toldOfOne_14 : decode cX8_toldOfOne 14 = .ok (.getfield 119, 3) := by decide +kernel
theorem dX8_toldOfOne_17 : decode cX8_toldOfOne 17 = .ok (.iload_n 1, 1) := by decide +kernel
theorem dX8_toldOfOne_18 : decode cX8_toldOfOne 18 = .ok (.bipush 10, 2) := by decide +kernel
theorem dX8_toldOfOne_20 : decode cX8_toldOfOne 20 = .ok (.isub, 1) := by decide +kernel
theorem dX8_toldOfOne_21 : decode cX8_toldOfOne 21 = .ok (.iaload, 1) := by decide +kernel
theorem dX8_toldOfOne_22 : decode cX8_toldOfOne 22 = .ok (.ireturn, 1) := by decide +kernel
theorem dX8_toldOfOne_23 : decode cX8_toldOfOne 23 = .ok (.aload_n 0, 1) := by decide +kernel
theorem dX8_toldOfOne_24 : decode cX8_toldOfOne 24 = .ok (.getfield 10, 3) := by decide +kernel
theorem dX8_toldOfOne_27 : decode cX8_toldOfOne 27 = .ok (.iload_n 1, 1) := by decide +kernel
theorem dX8_toldOfOne_28 : decode cX8_toldOfOne 28 = .ok (.bipush 20, 2) := by decide +kernel
theorem dX8_toldOfOne_30 : decode cX8_toldOfOne 30 = .ok (.isub, 1) := by decide +kernel
theorem dX8_toldOfOne_31 : decode cX8_toldOfOne 31 = .ok (.invokevirtual 156, 3) := by decide +kernel
theorem dX8_toldOfOne_34 : decode cX8_toldOfOne 34 = .ok (.ifCond .eq 16, 3) := by decide +kernel
theorem dX8_toldOfOne_37 : decode cX8_toldOfOne 37 = .ok (.aload_n 0, 1) := by decide +kernel
theorem dX8_toldOfOne_38 : decode cX8_toldOfOne 38 = .ok (.getfield 10, 3) := by decide +kernel
theorem dX8_toldOfOne_41 : decode cX8_toldOfOne 41 = .ok (.getfield 100, 3) := by decide +kernel
theorem dX8_toldOfOne_44 : decode cX8_toldOfOne 44 = .ok (.iload_n 1, 1) := by decide +kernel
theorem dX8_toldOfOne_45 : decode cX8_toldOfOne 45 = .ok (.bipush 20, 2) := by decide +kernel
theorem dX8_toldOfOne_47 : decode cX8_toldOfOne 47 = .ok (.isub, 1) := by decide +kernel
theorem dX8_toldOfOne_48 : decode cX8_toldOfOne 48 = .ok (.iaload, 1) := by decide +kernel
theorem dX8_toldOfOne_49 : decode cX8_toldOfOne 49 = .ok (.ireturn, 1) := by decide +kernel
theorem dX8_toldOfOne_50 : decode cX8_toldOfOne 50 = .ok (.aload_n 0, 1) := by decide +kernel
theorem dX8_toldOfOne_51 : decode cX8_toldOfOne 51 = .ok (.getfield 10, 3) := by decide +kernel
theorem dX8_toldOfOne_54 : decode cX8_toldOfOne 54 = .ok (.iload_n 1, 1) := by decide +kernel
theorem dX8_toldOfOne_55 : decode cX8_toldOfOne 55 = .ok (.bipush 30, 2) := by decide +kernel
theorem dX8_toldOfOne_57 : decode cX8_toldOfOne 57 = .ok (.isub, 1) := by decide +kernel
theorem dX8_toldOfOne_58 : decode cX8_toldOfOne 58 = .ok (.invokevirtual 156, 3) := by decide +kernel
theorem dX8_toldOfOne_61 : decode cX8_toldOfOne 61 = .ok (.ifCond .eq 16, 3) := by decide +kernel
theorem dX8_toldOfOne_64 : decode cX8_toldOfOne 64 = .ok (.aload_n 0, 1) := by decide +kernel
theorem dX8_toldOfOne_65 : decode cX8_toldOfOne 65 = .ok (.getfield 10, 3) := by decide +kernel
theorem dX8_toldOfOne_68 : decode cX8_toldOfOne 68 = .ok (.getfield 103, 3) := by decide +kernel
theorem dX8_toldOfOne_71 : decode cX8_toldOfOne 71 = .ok (.iload_n 1, 1) := by decide +kernel
theorem dX8_toldOfOne_72 : decode cX8_toldOfOne 72 = .ok (.bipush 30, 2) := by decide +kernel
theorem dX8_toldOfOne_74 : decode cX8_toldOfOne 74 = .ok (.isub, 1) := by decide +kernel
theorem dX8_toldOfOne_75 : decode cX8_toldOfOne 75 = .ok (.iaload, 1) := by decide +kernel
theorem dX8_toldOfOne_76 : decode cX8_toldOfOne 76 = .ok (.ireturn, 1) := by decide +kernel
theorem dX8_toldOfOne_77 : decode cX8_toldOfOne 77 = .ok (.iload_n 1, 1) := by decide +kernel
theorem dX8_toldOfOne_78 : decode cX8_toldOfOne 78 = .ok (.bipush 100, 2) := by decide +kernel
theorem dX8_toldOfOne_80 : decode cX8_toldOfOne 80 = .ok (.isub, 1) := by decide +kernel
theorem dX8_toldOfOne_81 : decode cX8_toldOfOne 81 = .ok (.invokestatic 76, 3) := by decide +kernel
theorem dX8_toldOfOne_84 : decode cX8_toldOfOne 84 = .ok (.ifCond .eq 16, 3) := by decide +kernel
theorem dX8_toldOfOne_87 : decode cX8_toldOfOne 87 = .ok (.aload_n 0, 1) := by decide +kernel
theorem dX8_toldOfOne_88 : decode cX8_toldOfOne 88 = .ok (.getfield 10, 3) := by decide +kernel
theorem dX8_toldOfOne_91 : decode cX8_toldOfOne 91 = .ok (.getfield 84, 3) := by decide +kernel
theorem dX8_toldOfOne_94 : decode cX8_toldOfOne 94 = .ok (.iload_n 1, 1) := by decide +kernel
theorem dX8_toldOfOne_95 : decode cX8_toldOfOne 95 = .ok (.bipush 100, 2) := by decide +kernel
theorem dX8_toldOfOne_97 : decode cX8_toldOfOne 97 = .ok (.isub, 1) := by decide +kernel
theorem dX8_toldOfOne_98 : decode cX8_toldOfOne 98 = .ok (.iaload, 1) := by decide +kernel
theorem dX8_toldOfOne_99 : decode cX8_toldOfOne 99 = .ok (.ireturn, 1) := by decide +kernel
theorem dX8_toldOfOne_100 : decode cX8_toldOfOne 100 = .ok (.iload_n 1, 1) := by decide +kernel
theorem dX8_toldOfOne_101 : decode cX8_toldOfOne 101 = .ok (.sipush 200, 3) := by decide +kernel
theorem dX8_toldOfOne_104 : decode cX8_toldOfOne 104 = .ok (.isub, 1) := by decide +kernel
theorem dX8_toldOfOne_105 : decode cX8_toldOfOne 105 = .ok (.invokestatic 76, 3) := by decide +kernel
theorem dX8_toldOfOne_108 : decode cX8_toldOfOne 108 = .ok (.ifCond .eq 17, 3) := by decide +kernel
theorem dX8_toldOfOne_111 : decode cX8_toldOfOne 111 = .ok (.aload_n 0, 1) := by decide +kernel
theorem dX8_toldOfOne_112 : decode cX8_toldOfOne 112 = .ok (.getfield 10, 3) := by decide +kernel
theorem dX8_toldOfOne_115 : decode cX8_toldOfOne 115 = .ok (.getfield 88, 3) := by decide +kernel
theorem dX8_toldOfOne_118 : decode cX8_toldOfOne 118 = .ok (.iload_n 1, 1) := by decide +kernel
theorem dX8_toldOfOne_119 : decode cX8_toldOfOne 119 = .ok (.sipush 200, 3) := by decide +kernel
theorem dX8_toldOfOne_122 : decode cX8_toldOfOne 122 = .ok (.isub, 1) := by decide +kernel
theorem dX8_toldOfOne_123 : decode cX8_toldOfOne 123 = .ok (.iaload, 1) := by decide +kernel
theorem dX8_toldOfOne_124 : decode cX8_toldOfOne 124 = .ok (.ireturn, 1) := by decide +kernel
theorem dX8_toldOfOne_125 : decode cX8_toldOfOne 125 = .ok (.bipush (-2), 2) := by decide +kernel
theorem dX8_toldOfOne_127 : decode cX8_toldOfOne 127 = .ok (.ireturn, 1) := by decide +kernel
theorem dX8_nightsCanBe_0 : decode cX8_nightsCanBe 0 = .ok (.aload_n 0, 1) := by decide +kernel
theorem dX8_nightsCanBe_1 : decode cX8_nightsCanBe 1 = .ok (.getfield 30, 3) := by decide +kernel
theorem dX8_nightsCanBe_4 : decode cX8_nightsCanBe 4 = .ok (.invokevirtual 132, 3) := by decide +kernel
theorem dX8_nightsCanBe_7 : decode cX8_nightsCanBe 7 = .ok (.bipush (-6), 2) := by decide +kernel
theorem dX8_nightsCanBe_9 : decode cX8_nightsCanBe 9 = .ok (.if_icmp .eq 5, 3) := by decide +kernel
theorem dX8_nightsCanBe_12 : decode cX8_nightsCanBe 12 = .ok (.iconst 0, 1) := by decide +kernel
theorem dX8_nightsCanBe_13 : decode cX8_nightsCanBe 13 = .ok (.ireturn, 1) := by decide +kernel
theorem dX8_nightsCanBe_14 : decode cX8_nightsCanBe 14 = .ok (.aload_n 0, 1) := by decide +kernel
theorem dX8_nightsCanBe_15 : decode cX8_nightsCanBe 15 = .ok (.getfield 37, 3) := by decide +kernel
theorem dX8_nightsCanBe_18 : decode cX8_nightsCanBe 18 = .ok (.aload_n 0, 1) := by decide +kernel
theorem dX8_nightsCanBe_19 : decode cX8_nightsCanBe 19 = .ok (.getfield 30, 3) := by decide +kernel
theorem dX8_nightsCanBe_22 : decode cX8_nightsCanBe 22 = .ok (.aload_n 0, 1) := by decide +kernel
theorem dX8_nightsCanBe_23 : decode cX8_nightsCanBe 23 = .ok (.getfield 10, 3) := by decide +kernel
theorem dX8_nightsCanBe_26 : decode cX8_nightsCanBe 26 = .ok (.invokevirtual 135, 3) := by decide +kernel
theorem dX8_nightsCanBe_29 : decode cX8_nightsCanBe 29 = .ok (.aload_n 0, 1) := by decide +kernel
theorem dX8_nightsCanBe_30 : decode cX8_nightsCanBe 30 = .ok (.getfield 37, 3) := by decide +kernel
theorem dX8_nightsCanBe_33 : decode cX8_nightsCanBe 33 = .ok (.getfield 139, 3) := by decide +kernel
theorem dX8_nightsCanBe_36 : decode cX8_nightsCanBe 36 = .ok (.ifCond .ne 7, 3) := by decide +kernel
theorem dX8_nightsCanBe_39 : decode cX8_nightsCanBe 39 = .ok (.iconst 1, 1) := by decide +kernel
theorem dX8_nightsCanBe_40 : decode cX8_nightsCanBe 40 = .ok (.goto 4, 3) := by decide +kernel
theorem dX8_nightsCanBe_43 : decode cX8_nightsCanBe 43 = .ok (.iconst 0, 1) := by decide +kernel
theorem dX8_nightsCanBe_44 : decode cX8_nightsCanBe 44 = .ok (.ireturn, 1) := by decide +kernel
theorem dX8_winningPart_0 : decode cX8_winningPart 0 = .ok (.iload_n 0, 1) := by decide +kernel
theorem dX8_winningPart_1 : decode cX8_winningPart 1 = .ok (.getstatic 262, 3) := by decide +kernel
theorem dX8_winningPart_4 : decode cX8_winningPart 4 = .ok (.arraylength, 1) := by decide +kernel
theorem dX8_winningPart_5 : decode cX8_winningPart 5 = .ok (.if_icmp .lt 6, 3) := by decide +kernel
theorem dX8_winningPart_8 : decode cX8_winningPart 8 = .ok (.bipush (-6), 2) := by decide +kernel
theorem dX8_winningPart_10 : decode cX8_winningPart 10 = .ok (.ireturn, 1) := by decide +kernel
theorem dX8_winningPart_11 : decode cX8_winningPart 11 = .ok (.iconst 1, 1) := by decide +kernel
theorem dX8_winningPart_12 : decode cX8_winningPart 12 = .ok (.istore_n 1, 1) := by decide +kernel
theorem dX8_winningPart_13 : decode cX8_winningPart 13 = .ok (.iload_n 1, 1) := by decide +kernel
theorem dX8_winningPart_14 : decode cX8_winningPart 14 = .ok (.iload_n 0, 1) := by decide +kernel
theorem dX8_winningPart_15 : decode cX8_winningPart 15 = .ok (.iload_n 1, 1) := by decide +kernel
theorem dX8_winningPart_16 : decode cX8_winningPart 16 = .ok (.isub, 1) := by decide +kernel
theorem dX8_winningPart_17 : decode cX8_winningPart 17 = .ok (.if_icmp .ge 26, 3) := by decide +kernel
theorem dX8_winningPart_20 : decode cX8_winningPart 20 = .ok (.getstatic 262, 3) := by decide +kernel
theorem dX8_winningPart_23 : decode cX8_winningPart 23 = .ok (.iload_n 1, 1) := by decide +kernel
theorem dX8_winningPart_24 : decode cX8_winningPart 24 = .ok (.iaload, 1) := by decide +kernel
theorem dX8_winningPart_25 : decode cX8_winningPart 25 = .ok (.getstatic 262, 3) := by decide +kernel
theorem dX8_winningPart_28 : decode cX8_winningPart 28 = .ok (.iload_n 0, 1) := by decide +kernel
theorem dX8_winningPart_29 : decode cX8_winningPart 29 = .ok (.iload_n 1, 1) := by decide +kernel
theorem dX8_winningPart_30 : decode cX8_winningPart 30 = .ok (.isub, 1) := by decide +kernel
theorem dX8_winningPart_31 : decode cX8_winningPart 31 = .ok (.iaload, 1) := by decide +kernel
theorem dX8_winningPart_32 : decode cX8_winningPart 32 = .ok (.if_icmp .ne 5, 3) := by decide +kernel
theorem dX8_winningPart_35 : decode cX8_winningPart 35 = .ok (.iload_n 1, 1) := by decide +kernel
theorem dX8_winningPart_36 : decode cX8_winningPart 36 = .ok (.ireturn, 1) := by decide +kernel
theorem dX8_winningPart_37 : decode cX8_winningPart 37 = .ok (.iinc 1 1, 3) := by decide +kernel
theorem dX8_winningPart_40 : decode cX8_winningPart 40 = .ok (.goto (-27), 3) := by decide +kernel
theorem dX8_winningPart_43 : decode cX8_winningPart 43 = .ok (.bipush (-6), 2) := by decide +kernel
theorem dX8_winningPart_45 : decode cX8_winningPart 45 = .ok (.ireturn, 1) := by decide +kernel
theorem dX8_areFourLands_0 : decode cX8_areFourLands 0 = .ok (.iload_n 0, 1) := by decide +kernel
theorem dX8_areFourLands_1 : decode cX8_areFourLands 1 = .ok (.iconst 0, 1) := by decide +kernel
theorem dX8_areFourLands_2 : decode cX8_areFourLands 2 = .ok (.sipush 9999, 3) := by decide +kernel
theorem dX8_areFourLands_5 : decode cX8_areFourLands 5 = .ok (.invokestatic 80, 3) := by decide +kernel
theorem dX8_areFourLands_8 : decode cX8_areFourLands 8 = .ok (.ifCond .ne 5, 3) := by decide +kernel
theorem dX8_areFourLands_11 : decode cX8_areFourLands 11 = .ok (.iconst 0, 1) := by decide +kernel
theorem dX8_areFourLands_12 : decode cX8_areFourLands 12 = .ok (.ireturn, 1) := by decide +kernel
theorem dX8_areFourLands_13 : decode cX8_areFourLands 13 = .ok (.iload_n 0, 1) := by decide +kernel
theorem dX8_areFourLands_14 : decode cX8_areFourLands 14 = .ok (.sipush 1000, 3) := by decide +kernel
theorem dX8_areFourLands_17 : decode cX8_areFourLands 17 = .ok (.idiv, 1) := by decide +kernel
theorem dX8_areFourLands_18 : decode cX8_areFourLands 18 = .ok (.iconst 5, 1) := by decide +kernel
theorem dX8_areFourLands_19 : decode cX8_areFourLands 19 = .ok (.if_icmp .gt 37, 3) := by decide +kernel
theorem dX8_areFourLands_22 : decode cX8_areFourLands 22 = .ok (.iload_n 0, 1) := by decide +kernel
theorem dX8_areFourLands_23 : decode cX8_areFourLands 23 = .ok (.bipush 100, 2) := by decide +kernel
theorem dX8_areFourLands_25 : decode cX8_areFourLands 25 = .ok (.idiv, 1) := by decide +kernel
theorem dX8_areFourLands_26 : decode cX8_areFourLands 26 = .ok (.bipush 10, 2) := by decide +kernel
theorem dX8_areFourLands_28 : decode cX8_areFourLands 28 = .ok (.irem, 1) := by decide +kernel
theorem dX8_areFourLands_29 : decode cX8_areFourLands 29 = .ok (.iconst 5, 1) := by decide +kernel
theorem dX8_areFourLands_30 : decode cX8_areFourLands 30 = .ok (.if_icmp .gt 26, 3) := by decide +kernel
theorem dX8_areFourLands_33 : decode cX8_areFourLands 33 = .ok (.iload_n 0, 1) := by decide +kernel
theorem dX8_areFourLands_34 : decode cX8_areFourLands 34 = .ok (.bipush 10, 2) := by decide +kernel
theorem dX8_areFourLands_36 : decode cX8_areFourLands 36 = .ok (.idiv, 1) := by decide +kernel
theorem dX8_areFourLands_37 : decode cX8_areFourLands 37 = .ok (.bipush 10, 2) := by decide +kernel
theorem dX8_areFourLands_39 : decode cX8_areFourLands 39 = .ok (.irem, 1) := by decide +kernel
theorem dX8_areFourLands_40 : decode cX8_areFourLands 40 = .ok (.iconst 5, 1) := by decide +kernel
theorem dX8_areFourLands_41 : decode cX8_areFourLands 41 = .ok (.if_icmp .gt 15, 3) := by decide +kernel
theorem dX8_areFourLands_44 : decode cX8_areFourLands 44 = .ok (.iload_n 0, 1) := by decide +kernel
theorem dX8_areFourLands_45 : decode cX8_areFourLands 45 = .ok (.bipush 10, 2) := by decide +kernel
theorem dX8_areFourLands_47 : decode cX8_areFourLands 47 = .ok (.irem, 1) := by decide +kernel
theorem dX8_areFourLands_48 : decode cX8_areFourLands 48 = .ok (.iconst 5, 1) := by decide +kernel
theorem dX8_areFourLands_49 : decode cX8_areFourLands 49 = .ok (.if_icmp .gt 7, 3) := by decide +kernel
theorem dX8_areFourLands_52 : decode cX8_areFourLands 52 = .ok (.iconst 1, 1) := by decide +kernel
theorem dX8_areFourLands_53 : decode cX8_areFourLands 53 = .ok (.goto 4, 3) := by decide +kernel
theorem dX8_areFourLands_56 : decode cX8_areFourLands 56 = .ok (.iconst 0, 1) := by decide +kernel
theorem dX8_areFourLands_57 : decode cX8_areFourLands 57 = .ok (.ireturn, 1) := by decide +kernel
theorem dX8_greatestCommon_0 : decode cX8_greatestCommon 0 = .ok (.lload_n 0, 1) := by decide +kernel
theorem dX8_greatestCommon_1 : decode cX8_greatestCommon 1 = .ok (.lstore 4, 2) := by decide +kernel
theorem dX8_greatestCommon_3 : decode cX8_greatestCommon 3 = .ok (.lload_n 2, 1) := by decide +kernel
theorem dX8_greatestCommon_4 : decode cX8_greatestCommon 4 = .ok (.lstore 6, 2) := by decide +kernel
theorem dX8_greatestCommon_6 : decode cX8_greatestCommon 6 = .ok (.iconst 0, 1) := by decide +kernel
theorem dX8_greatestCommon_7 : decode cX8_greatestCommon 7 = .ok (.istore 8, 2) := by decide +kernel
theorem dX8_greatestCommon_9 : decode cX8_greatestCommon 9 = .ok (.iload 8, 2) := by decide +kernel
theorem dX8_greatestCommon_11 : decode cX8_greatestCommon 11 = .ok (.sipush 128, 3) := by decide +kernel
theorem dX8_greatestCommon_14 : decode cX8_greatestCommon 14 = .ok (.if_icmp .ge 31, 3) := by decide +kernel
theorem dX8_greatestCommon_17 : decode cX8_greatestCommon 17 = .ok (.lload 6, 2) := by decide +kernel
theorem dX8_greatestCommon_19 : decode cX8_greatestCommon 19 = .ok (.lconst 0, 1) := by decide +kernel
theorem dX8_greatestCommon_20 : decode cX8_greatestCommon 20 = .ok (.lcmp, 1) := by decide +kernel
theorem dX8_greatestCommon_21 : decode cX8_greatestCommon 21 = .ok (.ifCond .eq 24, 3) := by decide +kernel
theorem dX8_greatestCommon_24 : decode cX8_greatestCommon 24 = .ok (.lload 4, 2) := by decide +kernel
theorem dX8_greatestCommon_26 : decode cX8_greatestCommon 26 = .ok (.lload 6, 2) := by decide +kernel
theorem dX8_greatestCommon_28 : decode cX8_greatestCommon 28 = .ok (.lrem, 1) := by decide +kernel
theorem dX8_greatestCommon_29 : decode cX8_greatestCommon 29 = .ok (.lstore 9, 2) := by decide +kernel
theorem dX8_greatestCommon_31 : decode cX8_greatestCommon 31 = .ok (.lload 6, 2) := by decide +kernel
theorem dX8_greatestCommon_33 : decode cX8_greatestCommon 33 = .ok (.lstore 4, 2) := by decide +kernel
theorem dX8_greatestCommon_35 : decode cX8_greatestCommon 35 = .ok (.lload 9, 2) := by decide +kernel
theorem dX8_greatestCommon_37 : decode cX8_greatestCommon 37 = .ok (.lstore 6, 2) := by decide +kernel
theorem dX8_greatestCommon_39 : decode cX8_greatestCommon 39 = .ok (.iinc 8 1, 3) := by decide +kernel
theorem dX8_greatestCommon_42 : decode cX8_greatestCommon 42 = .ok (.goto (-33), 3) := by decide +kernel
theorem dX8_greatestCommon_45 : decode cX8_greatestCommon 45 = .ok (.lload 4, 2) := by decide +kernel
theorem dX8_greatestCommon_47 : decode cX8_greatestCommon 47 = .ok (.lreturn, 1) := by decide +kernel
theorem dX8_within_0 : decode cX8_within 0 = .ok (.iload_n 0, 1) := by decide +kernel
theorem dX8_within_1 : decode cX8_within 1 = .ok (.iload_n 1, 1) := by decide +kernel
theorem dX8_within_2 : decode cX8_within 2 = .ok (.if_icmp .lt 12, 3) := by decide +kernel
theorem dX8_within_5 : decode cX8_within 5 = .ok (.iload_n 0, 1) := by decide +kernel
theorem dX8_within_6 : decode cX8_within 6 = .ok (.iload_n 2, 1) := by decide +kernel
theorem dX8_within_7 : decode cX8_within 7 = .ok (.if_icmp .gt 7, 3) := by decide +kernel
theorem dX8_within_10 : decode cX8_within 10 = .ok (.iconst 1, 1) := by decide +kernel
theorem dX8_within_11 : decode cX8_within 11 = .ok (.goto 4, 3) := by decide +kernel
theorem dX8_within_14 : decode cX8_within 14 = .ok (.iconst 0, 1) := by decide +kernel
theorem dX8_within_15 : decode cX8_within 15 = .ok (.ireturn, 1) := by decide +kernel
theorem dX8_isCell_0 : decode cX8_isCell 0 = .ok (.iload_n 0, 1) := by decide +kernel
theorem dX8_isCell_1 : decode cX8_isCell 1 = .ok (.ifCond .lt 13, 3) := by decide +kernel
theorem dX8_isCell_4 : decode cX8_isCell 4 = .ok (.iload_n 0, 1) := by decide +kernel
theorem dX8_isCell_5 : decode cX8_isCell 5 = .ok (.bipush 25, 2) := by decide +kernel
theorem dX8_isCell_7 : decode cX8_isCell 7 = .ok (.if_icmp .ge 7, 3) := by decide +kernel
theorem dX8_isCell_10 : decode cX8_isCell 10 = .ok (.iconst 1, 1) := by decide +kernel
theorem dX8_isCell_11 : decode cX8_isCell 11 = .ok (.goto 4, 3) := by decide +kernel
theorem dX8_isCell_14 : decode cX8_isCell 14 = .ok (.iconst 0, 1) := by decide +kernel
theorem dX8_isCell_15 : decode cX8_isCell 15 = .ok (.ireturn, 1) := by decide +kernel
theorem dX8_isMoth_0 : decode cX8_isMoth 0 = .ok (.iload_n 0, 1) := by decide +kernel
theorem dX8_isMoth_1 : decode cX8_isMoth 1 = .ok (.ifCond .lt 12, 3) := by decide +kernel
theorem dX8_isMoth_4 : decode cX8_isMoth 4 = .ok (.iload_n 0, 1) := by decide +kernel
theorem dX8_isMoth_5 : decode cX8_isMoth 5 = .ok (.iconst 4, 1) := by decide +kernel
theorem dX8_isMoth_6 : decode cX8_isMoth 6 = .ok (.if_icmp .ge 7, 3) := by decide +kernel
theorem dX8_isMoth_9 : decode cX8_isMoth 9 = .ok (.iconst 1, 1) := by decide +kernel
theorem dX8_isMoth_10 : decode cX8_isMoth 10 = .ok (.goto 4, 3) := by decide +kernel
theorem dX8_isMoth_13 : decode cX8_isMoth 13 = .ok (.iconst 0, 1) := by decide +kernel
theorem dX8_isMoth_14 : decode cX8_isMoth 14 = .ok (.ireturn, 1) := by decide +kernel
theorem dX8_isWay_0 : decode cX8_isWay 0 = .ok (.iload_n 0, 1) := by decide +kernel
theorem dX8_isWay_1 : decode cX8_isWay 1 = .ok (.iconst 0, 1) := by decide +kernel
theorem dX8_isWay_2 : decode cX8_isWay 2 = .ok (.iconst 3, 1) := by decide +kernel
theorem dX8_isWay_3 : decode cX8_isWay 3 = .ok (.invokestatic 80, 3) := by decide +kernel
theorem dX8_isWay_6 : decode cX8_isWay 6 = .ok (.ireturn, 1) := by decide +kernel
theorem dX8_isThread_0 : decode cX8_isThread 0 = .ok (.iload_n 0, 1) := by decide +kernel
theorem dX8_isThread_1 : decode cX8_isThread 1 = .ok (.iconst 1, 1) := by decide +kernel
theorem dX8_isThread_2 : decode cX8_isThread 2 = .ok (.iconst 3, 1) := by decide +kernel
theorem dX8_isThread_3 : decode cX8_isThread 3 = .ok (.invokestatic 80, 3) := by decide +kernel
theorem dX8_isThread_6 : decode cX8_isThread 6 = .ok (.ireturn, 1) := by decide +kernel
theorem dX8_beside_0 : decode cX8_beside 0 = .ok (.iload_n 1, 1) := by decide +kernel
theorem dX8_beside_1 : decode cX8_beside 1 = .ok (.tableswitch 69 0 2 #[27, 40, 55], 27) := by decide +kernel
theorem dX8_beside_28 : decode cX8_beside 28 = .ok (.iload_n 0, 1) := by decide +kernel
theorem dX8_beside_29 : decode cX8_beside 29 = .ok (.iconst 5, 1) := by decide +kernel
theorem dX8_beside_30 : decode cX8_beside 30 = .ok (.if_icmp .lt 9, 3) := by decide +kernel
theorem dX8_beside_33 : decode cX8_beside 33 = .ok (.iload_n 0, 1) := by decide +kernel
theorem dX8_beside_34 : decode cX8_beside 34 = .ok (.iconst 5, 1) := by decide +kernel
theorem dX8_beside_35 : decode cX8_beside 35 = .ok (.isub, 1) := by decide +kernel
theorem dX8_beside_36 : decode cX8_beside 36 = .ok (.goto 4, 3) := by decide +kernel
theorem dX8_beside_39 : decode cX8_beside 39 = .ok (.iconst (-1), 1) := by decide +kernel
theorem dX8_beside_40 : decode cX8_beside 40 = .ok (.ireturn, 1) := by decide +kernel
theorem dX8_beside_41 : decode cX8_beside 41 = .ok (.iload_n 0, 1) := by decide +kernel
theorem dX8_beside_42 : decode cX8_beside 42 = .ok (.iconst 5, 1) := by decide +kernel
theorem dX8_beside_43 : decode cX8_beside 43 = .ok (.irem, 1) := by decide +kernel
theorem dX8_beside_44 : decode cX8_beside 44 = .ok (.iconst 4, 1) := by decide +kernel
theorem dX8_beside_45 : decode cX8_beside 45 = .ok (.if_icmp .ge 9, 3) := by decide +kernel
theorem dX8_beside_48 : decode cX8_beside 48 = .ok (.iload_n 0, 1) := by decide +kernel
theorem dX8_beside_49 : decode cX8_beside 49 = .ok (.iconst 1, 1) := by decide +kernel
theorem dX8_beside_50 : decode cX8_beside 50 = .ok (.iadd, 1) := by decide +kernel
theorem dX8_beside_51 : decode cX8_beside 51 = .ok (.goto 4, 3) := by decide +kernel
theorem dX8_beside_54 : decode cX8_beside 54 = .ok (.iconst (-1), 1) := by decide +kernel
theorem dX8_beside_55 : decode cX8_beside 55 = .ok (.ireturn, 1) := by decide +kernel
theorem dX8_beside_56 : decode cX8_beside 56 = .ok (.iload_n 0, 1) := by decide +kernel
theorem dX8_beside_57 : decode cX8_beside 57 = .ok (.bipush 20, 2) := by decide +kernel
theorem dX8_beside_59 : decode cX8_beside 59 = .ok (.if_icmp .ge 9, 3) := by decide +kernel
theorem dX8_beside_62 : decode cX8_beside 62 = .ok (.iload_n 0, 1) := by decide +kernel
theorem dX8_beside_63 : decode cX8_beside 63 = .ok (.iconst 5, 1) := by decide +kernel
theorem dX8_beside_64 : decode cX8_beside 64 = .ok (.iadd, 1) := by decide +kernel
theorem dX8_beside_65 : decode cX8_beside 65 = .ok (.goto 4, 3) := by decide +kernel
theorem dX8_beside_68 : decode cX8_beside 68 = .ok (.iconst (-1), 1) := by decide +kernel
theorem dX8_beside_69 : decode cX8_beside 69 = .ok (.ireturn, 1) := by decide +kernel
theorem dX8_beside_70 : decode cX8_beside 70 = .ok (.iload_n 0, 1) := by decide +kernel
theorem dX8_beside_71 : decode cX8_beside 71 = .ok (.iconst 5, 1) := by decide +kernel
theorem dX8_beside_72 : decode cX8_beside 72 = .ok (.irem, 1) := by decide +kernel
theorem dX8_beside_73 : decode cX8_beside 73 = .ok (.ifCond .le 9, 3) := by decide +kernel
theorem dX8_beside_76 : decode cX8_beside 76 = .ok (.iload_n 0, 1) := by decide +kernel
theorem dX8_beside_77 : decode cX8_beside 77 = .ok (.iconst 1, 1) := by decide +kernel
theorem dX8_beside_78 : decode cX8_beside 78 = .ok (.isub, 1) := by decide +kernel
theorem dX8_beside_79 : decode cX8_beside 79 = .ok (.goto 4, 3) := by decide +kernel
theorem dX8_beside_82 : decode cX8_beside 82 = .ok (.iconst (-1), 1) := by decide +kernel
theorem dX8_beside_83 : decode cX8_beside 83 = .ok (.ireturn, 1) := by decide +kernel
theorem dX8_allBeside_0 : decode cX8_allBeside 0 = .ok (.ldc_w 265, 3) := by decide +kernel
theorem dX8_allBeside_3 : decode cX8_allBeside 3 = .ok (.istore_n 1, 1) := by decide +kernel
theorem dX8_allBeside_4 : decode cX8_allBeside 4 = .ok (.ldc_w 266, 3) := by decide +kernel
theorem dX8_allBeside_7 : decode cX8_allBeside 7 = .ok (.istore_n 2, 1) := by decide +kernel
theorem dX8_allBeside_8 : decode cX8_allBeside 8 = .ok (.iload_n 2, 1) := by decide +kernel
theorem dX8_allBeside_9 : decode cX8_allBeside 9 = .ok (.iconst 4, 1) := by decide +kernel
theorem dX8_allBeside_10 : decode cX8_allBeside 10 = .ok (.ishl, 1) := by decide +kernel
theorem dX8_allBeside_11 : decode cX8_allBeside 11 = .ok (.istore_n 3, 1) := by decide +kernel
theorem dX8_allBeside_12 : decode cX8_allBeside 12 = .ok (.iload_n 0, 1) := by decide +kernel
theorem dX8_allBeside_13 : decode cX8_allBeside 13 = .ok (.iconst 5, 1) := by decide +kernel
theorem dX8_allBeside_14 : decode cX8_allBeside 14 = .ok (.ishr, 1) := by decide +kernel
theorem dX8_allBeside_15 : decode cX8_allBeside 15 = .ok (.iload_n 0, 1) := by decide +kernel
theorem dX8_allBeside_16 : decode cX8_allBeside 16 = .ok (.iconst 5, 1) := by decide +kernel
theorem dX8_allBeside_17 : decode cX8_allBeside 17 = .ok (.ishl, 1) := by decide +kernel
theorem dX8_allBeside_18 : decode cX8_allBeside 18 = .ok (.iload_n 1, 1) := by decide +kernel
theorem dX8_allBeside_19 : decode cX8_allBeside 19 = .ok (.iand, 1) := by decide +kernel
theorem dX8_allBeside_20 : decode cX8_allBeside 20 = .ok (.ior, 1) := by decide +kernel
theorem dX8_allBeside_21 : decode cX8_allBeside 21 = .ok (.iload_n 0, 1) := by decide +kernel
theorem dX8_allBeside_22 : decode cX8_allBeside 22 = .ok (.iload_n 3, 1) := by decide +kernel
theorem dX8_allBeside_23 : decode cX8_allBeside 23 = .ok (.iconst (-1), 1) := by decide +kernel
theorem dX8_allBeside_24 : decode cX8_allBeside 24 = .ok (.ixor, 1) := by decide +kernel
theorem dX8_allBeside_25 : decode cX8_allBeside 25 = .ok (.iand, 1) := by decide +kernel
theorem dX8_allBeside_26 : decode cX8_allBeside 26 = .ok (.iconst 1, 1) := by decide +kernel
theorem dX8_allBeside_27 : decode cX8_allBeside 27 = .ok (.ishl, 1) := by decide +kernel
theorem dX8_allBeside_28 : decode cX8_allBeside 28 = .ok (.ior, 1) := by decide +kernel
theorem dX8_allBeside_29 : decode cX8_allBeside 29 = .ok (.iload_n 0, 1) := by decide +kernel
theorem dX8_allBeside_30 : decode cX8_allBeside 30 = .ok (.iload_n 2, 1) := by decide +kernel
theorem dX8_allBeside_31 : decode cX8_allBeside 31 = .ok (.iconst (-1), 1) := by decide +kernel
theorem dX8_allBeside_32 : decode cX8_allBeside 32 = .ok (.ixor, 1) := by decide +kernel
theorem dX8_allBeside_33 : decode cX8_allBeside 33 = .ok (.iand, 1) := by decide +kernel
theorem dX8_allBeside_34 : decode cX8_allBeside 34 = .ok (.iconst 1, 1) := by decide +kernel
theorem dX8_allBeside_35 : decode cX8_allBeside 35 = .ok (.ishr, 1) := by decide +kernel
theorem dX8_allBeside_36 : decode cX8_allBeside 36 = .ok (.ior, 1) := by decide +kernel
theorem dX8_allBeside_37 : decode cX8_allBeside 37 = .ok (.ireturn, 1) := by decide +kernel
theorem dX9_init_0 : decode cX9_init 0 = .ok (.aload_n 0, 1) := by decide +kernel
theorem dX9_init_1 : decode cX9_init 1 = .ok (.invokespecial 1, 3) := by decide +kernel
theorem dX9_init_4 : decode cX9_init 4 = .ok (.aload_n 0, 1) := by decide +kernel
theorem dX9_init_5 : decode cX9_init 5 = .ok (.bipush 63, 2) := by decide +kernel
theorem dX9_init_7 : decode cX9_init 7 = .ok (.newarray .int, 2) := by decide +kernel
theorem dX9_init_9 : decode cX9_init 9 = .ok (.putfield 7, 3) := by decide +kernel
theorem dX9_init_12 : decode cX9_init 12 = .ok (.aload_n 0, 1) := by decide +kernel
theorem dX9_init_13 : decode cX9_init 13 = .ok (.bipush 63, 2) := by decide +kernel
theorem dX9_init_15 : decode cX9_init 15 = .ok (.newarray .int, 2) := by decide +kernel
theorem dX9_init_17 : decode cX9_init 17 = .ok (.putfield 13, 3) := by decide +kernel
theorem dX9_init_20 : decode cX9_init 20 = .ok (.aload_n 0, 1) := by decide +kernel
theorem dX9_init_21 : decode cX9_init 21 = .ok (.bipush 16, 2) := by decide +kernel
theorem dX9_init_23 : decode cX9_init 23 = .ok (.newarray .int, 2) := by decide +kernel
theorem dX9_init_25 : decode cX9_init 25 = .ok (.putfield 16, 3) := by decide +kernel
theorem dX9_init_28 : decode cX9_init 28 = .ok (.aload_n 0, 1) := by decide +kernel
theorem dX9_init_29 : decode cX9_init 29 = .ok (.bipush 60, 2) := by decide +kernel
theorem dX9_init_31 : decode cX9_init 31 = .ok (.newarray .int, 2) := by decide +kernel
theorem dX9_init_33 : decode cX9_init 33 = .ok (.putfield 19, 3) := by decide +kernel
theorem dX9_init_36 : decode cX9_init 36 = .ok (.aload_n 0, 1) := by decide +kernel
theorem dX9_init_37 : decode cX9_init 37 = .ok (.bipush 25, 2) := by decide +kernel
theorem dX9_init_39 : decode cX9_init 39 = .ok (.newarray .int, 2) := by decide +kernel
theorem dX9_init_41 : decode cX9_init 41 = .ok (.putfield 22, 3) := by decide +kernel
theorem dX9_init_44 : decode cX9_init 44 = .ok (.aload_n 0, 1) := by decide +kernel
theorem dX9_init_45 : decode cX9_init 45 = .ok (.bipush 25, 2) := by decide +kernel
theorem dX9_init_47 : decode cX9_init 47 = .ok (.newarray .int, 2) := by decide +kernel
theorem dX9_init_49 : decode cX9_init 49 = .ok (.putfield 25, 3) := by decide +kernel
theorem dX9_init_52 : decode cX9_init 52 = .ok (.aload_n 0, 1) := by decide +kernel
theorem dX9_init_53 : decode cX9_init 53 = .ok (.bipush 25, 2) := by decide +kernel
theorem dX9_init_55 : decode cX9_init 55 = .ok (.newarray .int, 2) := by decide +kernel
theorem dX9_init_57 : decode cX9_init 57 = .ok (.putfield 28, 3) := by decide +kernel
theorem dX9_init_60 : decode cX9_init 60 = .ok (.aload_n 0, 1) := by decide +kernel
theorem dX9_init_61 : decode cX9_init 61 = .ok (.bipush 61, 2) := by decide +kernel
theorem dX9_init_63 : decode cX9_init 63 = .ok (.newarray .int, 2) := by decide +kernel
theorem dX9_init_65 : decode cX9_init 65 = .ok (.putfield 31, 3) := by decide +kernel
theorem dX9_init_68 : decode cX9_init 68 = .ok (.aload_n 0, 1) := by decide +kernel
theorem dX9_init_69 : decode cX9_init 69 = .ok (.bipush 64, 2) := by decide +kernel
theorem dX9_init_71 : decode cX9_init 71 = .ok (.newarray .int, 2) := by decide +kernel
theorem dX9_init_73 : decode cX9_init 73 = .ok (.putfield 34, 3) := by decide +kernel
theorem dX9_init_76 : decode cX9_init 76 = .ok (.aload_n 0, 1) := by decide +kernel
theorem dX9_init_77 : decode cX9_init 77 = .ok (.bipush 10, 2) := by decide +kernel
theorem dX9_init_79 : decode cX9_init 79 = .ok (.newarray .long, 2) := by decide +kernel
theorem dX9_init_81 : decode cX9_init 81 = .ok (.putfield 37, 3) := by decide +kernel
theorem dX9_init_84 : decode cX9_init 84 = .ok (.aload_n 0, 1) := by decide +kernel
theorem dX9_init_85 : decode cX9_init 85 = .ok (.bipush 10, 2) := by decide +kernel
theorem dX9_init_87 : decode cX9_init 87 = .ok (.newarray .long, 2) := by decide +kernel
theorem dX9_init_89 : decode cX9_init 89 = .ok (.putfield 41, 3) := by decide +kernel
theorem dX9_init_92 : decode cX9_init 92 = .ok (.aload_n 0, 1) := by decide +kernel
theorem dX9_init_93 : decode cX9_init 93 = .ok (.sipush 180, 3) := by decide +kernel
theorem dX9_init_96 : decode cX9_init 96 = .ok (.newarray .int, 2) := by decide +kernel
theorem dX9_init_98 : decode cX9_init 98 = .ok (.putfield 44, 3) := by decide +kernel
theorem dX9_init_101 : decode cX9_init 101 = .ok (.aload_n 0, 1) := by decide +kernel
theorem dX9_init_102 : decode cX9_init 102 = .ok (.iconst 2, 1) := by decide +kernel
theorem dX9_init_103 : decode cX9_init 103 = .ok (.newarray .boolean, 2) := by decide +kernel
theorem dX9_init_105 : decode cX9_init 105 = .ok (.putfield 47, 3) := by decide +kernel
theorem dX9_init_108 : decode cX9_init 108 = .ok (.iconst 0, 1) := by decide +kernel
theorem dX9_init_109 : decode cX9_init 109 = .ok (.istore_n 1, 1) := by decide +kernel
theorem dX9_init_110 : decode cX9_init 110 = .ok (.iload_n 1, 1) := by decide +kernel
theorem dX9_init_111 : decode cX9_init 111 = .ok (.bipush 25, 2) := by decide +kernel
theorem dX9_init_113 : decode cX9_init 113 = .ok (.if_icmp .ge 16, 3) := by decide +kernel
theorem dX9_init_116 : decode cX9_init 116 = .ok (.aload_n 0, 1) := by decide +kernel
theorem dX9_init_117 : decode cX9_init 117 = .ok (.getfield 7, 3) := by decide +kernel
theorem dX9_init_120 : decode cX9_init 120 = .ok (.iload_n 1, 1) := by decide +kernel
theorem dX9_init_121 : decode cX9_init 121 = .ok (.iconst 1, 1) := by decide +kernel
theorem dX9_init_122 : decode cX9_init 122 = .ok (.iastore, 1) := by decide +kernel
theorem dX9_init_123 : decode cX9_init 123 = .ok (.iinc 1 1, 3) := by decide +kernel
theorem dX9_init_126 : decode cX9_init 126 = .ok (.goto (-16), 3) := by decide +kernel
theorem dX9_init_129 : decode cX9_init 129 = .ok (.iconst 0, 1) := by decide +kernel
theorem dX9_init_130 : decode cX9_init 130 = .ok (.istore_n 1, 1) := by decide +kernel
theorem dX9_init_131 : decode cX9_init 131 = .ok (.iload_n 1, 1) := by decide +kernel
theorem dX9_init_132 : decode cX9_init 132 = .ok (.iconst 3, 1) := by decide +kernel
theorem dX9_init_133 : decode cX9_init 133 = .ok (.if_icmp .ge 20, 3) := by decide +kernel
theorem dX9_init_136 : decode cX9_init 136 = .ok (.aload_n 0, 1) := by decide +kernel
theorem dX9_init_137 : decode cX9_init 137 = .ok (.getfield 7, 3) := by decide +kernel
theorem dX9_init_140 : decode cX9_init 140 = .ok (.bipush 58, 2) := by decide +kernel
theorem dX9_init_142 : decode cX9_init 142 = .ok (.iload_n 1, 1) := by decide +kernel
theorem dX9_init_143 : decode cX9_init 143 = .ok (.iadd, 1) := by decide +kernel
theorem dX9_init_144 : decode cX9_init 144 = .ok (.bipush 9, 2) := by decide +kernel
theorem dX9_init_146 : decode cX9_init 146 = .ok (.iastore, 1) := by decide +kernel
theorem dX9_init_147 : decode cX9_init 147 = .ok (.iinc 1 1, 3) := by decide +kernel
theorem dX9_init_150 : decode cX9_init 150 = .ok (.goto (-19), 3) := by decide +kernel
theorem dX9_init_153 : decode cX9_init 153 = .ok (.return_, 1) := by decide +kernel
theorem dX9_in_0 : decode cX9_in 0 = .ok (.iload_n 0, 1) := by decide +kernel
theorem dX9_in_1 : decode cX9_in 1 = .ok (.iload_n 1, 1) := by decide +kernel
theorem dX9_in_2 : decode cX9_in 2 = .ok (.if_icmp .lt 12, 3) := by decide +kernel
theorem dX9_in_5 : decode cX9_in 5 = .ok (.iload_n 0, 1) := by decide +kernel
theorem dX9_in_6 : decode cX9_in 6 = .ok (.iload_n 2, 1) := by decide +kernel
theorem dX9_in_7 : decode cX9_in 7 = .ok (.if_icmp .gt 7, 3) := by decide +kernel
theorem dX9_in_10 : decode cX9_in 10 = .ok (.iconst 1, 1) := by decide +kernel
theorem dX9_in_11 : decode cX9_in 11 = .ok (.goto 4, 3) := by decide +kernel
theorem dX9_in_14 : decode cX9_in 14 = .ok (.iconst 0, 1) := by decide +kernel
theorem dX9_in_15 : decode cX9_in 15 = .ok (.ireturn, 1) := by decide +kernel
theorem dX9_has_0 : decode cX9_has 0 = .ok (.iload_n 0, 1) := by decide +kernel
theorem dX9_has_1 : decode cX9_has 1 = .ok (.iload_n 1, 1) := by decide +kernel
theorem dX9_has_2 : decode cX9_has 2 = .ok (.ishr, 1) := by decide +kernel
theorem dX9_has_3 : decode cX9_has 3 = .ok (.iconst 1, 1) := by decide +kernel
theorem dX9_has_4 : decode cX9_has 4 = .ok (.iand, 1) := by decide +kernel
theorem dX9_has_5 : decode cX9_has 5 = .ok (.iconst 1, 1) := by decide +kernel
theorem dX9_has_6 : decode cX9_has 6 = .ok (.if_icmp .ne 7, 3) := by decide +kernel
theorem dX9_has_9 : decode cX9_has 9 = .ok (.iconst 1, 1) := by decide +kernel
theorem dX9_has_10 : decode cX9_has 10 = .ok (.goto 4, 3) := by decide +kernel
theorem dX9_has_13 : decode cX9_has 13 = .ok (.iconst 0, 1) := by decide +kernel
theorem dX9_has_14 : decode cX9_has 14 = .ok (.ireturn, 1) := by decide +kernel
theorem dX9_isCell_0 : decode cX9_isCell 0 = .ok (.iload_n 0, 1) := by decide +kernel
theorem dX9_isCell_1 : decode cX9_isCell 1 = .ok (.iconst 0, 1) := by decide +kernel
theorem dX9_isCell_2 : decode cX9_isCell 2 = .ok (.bipush 24, 2) := by decide +kernel
theorem dX9_isCell_4 : decode cX9_isCell 4 = .ok (.invokestatic 51, 3) := by decide +kernel
theorem dX9_isCell_7 : decode cX9_isCell 7 = .ok (.ireturn, 1) := by decide +kernel
theorem dX9_isThere_0 : decode cX9_isThere 0 = .ok (.iload_n 1, 1) := by decide +kernel
theorem dX9_isThere_1 : decode cX9_isThere 1 = .ok (.iconst 0, 1) := by decide +kernel
theorem dX9_isThere_2 : decode cX9_isThere 2 = .ok (.iconst 3, 1) := by decide +kernel
theorem dX9_isThere_3 : decode cX9_isThere 3 = .ok (.invokestatic 51, 3) := by decide +kernel
theorem dX9_isThere_6 : decode cX9_isThere 6 = .ok (.ifCond .eq 21, 3) := by decide +kernel
theorem dX9_isThere_9 : decode cX9_isThere 9 = .ok (.aload_n 0, 1) := by decide +kernel
theorem dX9_isThere_10 : decode cX9_isThere 10 = .ok (.getfield 7, 3) := by decide +kernel
theorem dX9_isThere_13 : decode cX9_isThere 13 = .ok (.bipush 61, 2) := by decide +kernel
theorem dX9_isThere_15 : decode cX9_isThere 15 = .ok (.iaload, 1) := by decide +kernel
theorem dX9_isThere_16 : decode cX9_isThere 16 = .ok (.iload_n 1, 1) := by decide +kernel
theorem dX9_isThere_17 : decode cX9_isThere 17 = .ok (.invokestatic 55, 3) := by decide +kernel
theorem dX9_isThere_20 : decode cX9_isThere 20 = .ok (.ifCond .eq 7, 3) := by decide +kernel
theorem dX9_isThere_23 : decode cX9_isThere 23 = .ok (.iconst 1, 1) := by decide +kernel
theorem dX9_isThere_24 : decode cX9_isThere 24 = .ok (.goto 4, 3) := by decide +kernel
theorem dX9_isThere_27 : decode cX9_isThere 27 = .ok (.iconst 0, 1) := by decide +kernel
theorem dX9_isThere_28 : decode cX9_isThere 28 = .ok (.ireturn, 1) := by decide +kernel
theorem dX9_beside_0 : decode cX9_beside 0 = .ok (.iload_n 0, 1) := by decide +kernel
theorem dX9_beside_1 : decode cX9_beside 1 = .ok (.iconst 5, 1) := by decide +kernel
theorem dX9_beside_2 : decode cX9_beside 2 = .ok (.irem, 1) := by decide +kernel
theorem dX9_beside_3 : decode cX9_beside 3 = .ok (.istore_n 2, 1) := by decide +kernel
theorem dX9_beside_4 : decode cX9_beside 4 = .ok (.iload_n 0, 1) := by decide +kernel
theorem dX9_beside_5 : decode cX9_beside 5 = .ok (.iconst 5, 1) := by decide +kernel
theorem dX9_beside_6 : decode cX9_beside 6 = .ok (.idiv, 1) := by decide +kernel
theorem dX9_beside_7 : decode cX9_beside 7 = .ok (.istore_n 3, 1) := by decide +kernel
theorem dX9_beside_8 : decode cX9_beside 8 = .ok (.iload_n 1, 1) := by decide +kernel
theorem dX9_beside_9 : decode cX9_beside 9 = .ok (.tableswitch 68 0 2 #[27, 40, 54], 27) := by decide +kernel
theorem dX9_beside_36 : decode cX9_beside 36 = .ok (.iload_n 3, 1) := by decide +kernel
theorem dX9_beside_37 : decode cX9_beside 37 = .ok (.ifCond .le 9, 3) := by decide +kernel
theorem dX9_beside_40 : decode cX9_beside 40 = .ok (.iload_n 0, 1) := by decide +kernel
theorem dX9_beside_41 : decode cX9_beside 41 = .ok (.iconst 5, 1) := by decide +kernel
theorem dX9_beside_42 : decode cX9_beside 42 = .ok (.isub, 1) := by decide +kernel
theorem dX9_beside_43 : decode cX9_beside 43 = .ok (.goto 5, 3) := by decide +kernel
theorem dX9_beside_46 : decode cX9_beside 46 = .ok (.bipush (-6), 2) := by decide +kernel
theorem dX9_beside_48 : decode cX9_beside 48 = .ok (.ireturn, 1) := by decide +kernel
theorem dX9_beside_49 : decode cX9_beside 49 = .ok (.iload_n 2, 1) := by decide +kernel
theorem dX9_beside_50 : decode cX9_beside 50 = .ok (.iconst 4, 1) := by decide +kernel
theorem dX9_beside_51 : decode cX9_beside 51 = .ok (.if_icmp .ge 9, 3) := by decide +kernel
theorem dX9_beside_54 : decode cX9_beside 54 = .ok (.iload_n 0, 1) := by decide +kernel
theorem dX9_beside_55 : decode cX9_beside 55 = .ok (.iconst 1, 1) := by decide +kernel
theorem dX9_beside_56 : decode cX9_beside 56 = .ok (.iadd, 1) := by decide +kernel
theorem dX9_beside_57 : decode cX9_beside 57 = .ok (.goto 5, 3) := by decide +kernel
theorem dX9_beside_60 : decode cX9_beside 60 = .ok (.bipush (-6), 2) := by decide +kernel
theorem dX9_beside_62 : decode cX9_beside 62 = .ok (.ireturn, 1) := by decide +kernel
theorem dX9_beside_63 : decode cX9_beside 63 = .ok (.iload_n 3, 1) := by decide +kernel
theorem dX9_beside_64 : decode cX9_beside 64 = .ok (.iconst 4, 1) := by decide +kernel
theorem dX9_beside_65 : decode cX9_beside 65 = .ok (.if_icmp .ge 9, 3) := by decide +kernel
theorem dX9_beside_68 : decode cX9_beside 68 = .ok (.iload_n 0, 1) := by decide +kernel
theorem dX9_beside_69 : decode cX9_beside 69 = .ok (.iconst 5, 1) := by decide +kernel
theorem dX9_beside_70 : decode cX9_beside 70 = .ok (.iadd, 1) := by decide +kernel
theorem dX9_beside_71 : decode cX9_beside 71 = .ok (.goto 5, 3) := by decide +kernel
theorem dX9_beside_74 : decode cX9_beside 74 = .ok (.bipush (-6), 2) := by decide +kernel
theorem dX9_beside_76 : decode cX9_beside 76 = .ok (.ireturn, 1) := by decide +kernel
theorem dX9_beside_77 : decode cX9_beside 77 = .ok (.iload_n 2, 1) := by decide +kernel
theorem dX9_beside_78 : decode cX9_beside 78 = .ok (.ifCond .le 9, 3) := by decide +kernel
theorem dX9_beside_81 : decode cX9_beside 81 = .ok (.iload_n 0, 1) := by decide +kernel
theorem dX9_beside_82 : decode cX9_beside 82 = .ok (.iconst 1, 1) := by decide +kernel
theorem dX9_beside_83 : decode cX9_beside 83 = .ok (.isub, 1) := by decide +kernel
theorem dX9_beside_84 : decode cX9_beside 84 = .ok (.goto 5, 3) := by decide +kernel
theorem dX9_beside_87 : decode cX9_beside 87 = .ok (.bipush (-6), 2) := by decide +kernel
theorem dX9_beside_89 : decode cX9_beside 89 = .ok (.ireturn, 1) := by decide +kernel
theorem dX9_land_0 : decode cX9_land 0 = .ok (.iload_n 1, 1) := by decide +kernel
theorem dX9_land_1 : decode cX9_land 1 = .ok (.invokestatic 59, 3) := by decide +kernel
theorem dX9_land_4 : decode cX9_land 4 = .ok (.ifCond .ne 5, 3) := by decide +kernel
theorem dX9_land_7 : decode cX9_land 7 = .ok (.iconst (-1), 1) := by decide +kernel
theorem dX9_land_8 : decode cX9_land 8 = .ok (.ireturn, 1) := by decide +kernel
theorem dX9_land_9 : decode cX9_land 9 = .ok (.iload_n 2, 1) := by decide +kernel
theorem dX9_land_10 : decode cX9_land 10 = .ok (.iconst 0, 1) := by decide +kernel
theorem dX9_land_11 : decode cX9_land 11 = .ok (.iconst 5, 1) := by decide +kernel
theorem dX9_land_12 : decode cX9_land 12 = .ok (.invokestatic 51, 3) := by decide +kernel
theorem dX9_land_15 : decode cX9_land 15 = .ok (.ifCond .ne 6, 3) := by decide +kernel
theorem dX9_land_18 : decode cX9_land 18 = .ok (.bipush (-2), 2) := by decide +kernel
theorem dX9_land_20 : decode cX9_land 20 = .ok (.ireturn, 1) := by decide +kernel
theorem dX9_land_21 : decode cX9_land 21 = .ok (.aload_n 0, 1) := by decide +kernel
theorem dX9_land_22 : decode cX9_land 22 = .ok (.getfield 7, 3) := by decide +kernel
theorem dX9_land_25 : decode cX9_land 25 = .ok (.iload_n 1, 1) := by decide +kernel
theorem dX9_land_26 : decode cX9_land 26 = .ok (.iaload, 1) := by decide +kernel
theorem dX9_land_27 : decode cX9_land 27 = .ok (.istore_n 3, 1) := by decide +kernel
theorem dX9_land_28 : decode cX9_land 28 = .ok (.aload_n 0, 1) := by decide +kernel
theorem dX9_land_29 : decode cX9_land 29 = .ok (.getfield 7, 3) := by decide +kernel
theorem dX9_land_32 : decode cX9_land 32 = .ok (.iload_n 1, 1) := by decide +kernel
theorem dX9_land_33 : decode cX9_land 33 = .ok (.iload_n 2, 1) := by decide +kernel
theorem dX9_land_34 : decode cX9_land 34 = .ok (.iastore, 1) := by decide +kernel
theorem dX9_land_35 : decode cX9_land 35 = .ok (.iload_n 3, 1) := by decide +kernel
theorem dX9_land_36 : decode cX9_land 36 = .ok (.ireturn, 1) := by decide +kernel
theorem dX9_camphor_0 : decode cX9_camphor 0 = .ok (.iload_n 1, 1) := by decide +kernel
theorem dX9_camphor_1 : decode cX9_camphor 1 = .ok (.invokestatic 59, 3) := by decide +kernel
theorem dX9_camphor_4 : decode cX9_camphor 4 = .ok (.ifCond .ne 5, 3) := by decide +kernel
theorem dX9_camphor_7 : decode cX9_camphor 7 = .ok (.iconst (-1), 1) := by decide +kernel
theorem dX9_camphor_8 : decode cX9_camphor 8 = .ok (.ireturn, 1) := by decide +kernel
theorem dX9_camphor_9 : decode cX9_camphor 9 = .ok (.iload_n 2, 1) := by decide +kernel
theorem dX9_camphor_10 : decode cX9_camphor 10 = .ok (.iconst 0, 1) := by decide +kernel
theorem dX9_camphor_11 : decode cX9_camphor 11 = .ok (.bipush 9, 2) := by decide +kernel
theorem dX9_camphor_13 : decode cX9_camphor 13 = .ok (.invokestatic 51, 3) := by decide +kernel
theorem dX9_camphor_16 : decode cX9_camphor 16 = .ok (.ifCond .ne 6, 3) := by decide +kernel
theorem dX9_camphor_19 : decode cX9_camphor 19 = .ok (.bipush (-2), 2) := by decide +kernel
theorem dX9_camphor_21 : decode cX9_camphor 21 = .ok (.ireturn, 1) := by decide +kernel
theorem dX9_camphor_22 : decode cX9_camphor 22 = .ok (.aload_n 0, 1) := by decide +kernel
theorem dX9_camphor_23 : decode cX9_camphor 23 = .ok (.getfield 7, 3) := by decide +kernel
theorem dX9_camphor_26 : decode cX9_camphor 26 = .ok (.bipush 25, 2) := by decide +kernel
theorem dX9_camphor_28 : decode cX9_camphor 28 = .ok (.iload_n 1, 1) := by decide +kernel
theorem dX9_camphor_29 : decode cX9_camphor 29 = .ok (.iadd, 1) := by decide +kernel
theorem dX9_camphor_30 : decode cX9_camphor 30 = .ok (.iaload, 1) := by decide +kernel
theorem dX9_camphor_31 : decode cX9_camphor 31 = .ok (.istore_n 3, 1) := by decide +kernel
theorem dX9_camphor_32 : decode cX9_camphor 32 = .ok (.aload_n 0, 1) := by decide +kernel
theorem dX9_camphor_33 : decode cX9_camphor 33 = .ok (.getfield 7, 3) := by decide +kernel
theorem dX9_camphor_36 : decode cX9_camphor 36 = .ok (.bipush 25, 2) := by decide +kernel
theorem dX9_camphor_38 : decode cX9_camphor 38 = .ok (.iload_n 1, 1) := by decide +kernel
theorem dX9_camphor_39 : decode cX9_camphor 39 = .ok (.iadd, 1) := by decide +kernel
theorem dX9_camphor_40 : decode cX9_camphor 40 = .ok (.iload_n 2, 1) := by decide +kernel
theorem dX9_camphor_41 : decode cX9_camphor 41 = .ok (.iastore, 1) := by decide +kernel
theorem dX9_camphor_42 : decode cX9_camphor 42 = .ok (.iload_n 3, 1) := by decide +kernel
theorem dX9_camphor_43 : decode cX9_camphor 43 = .ok (.ireturn, 1) := by decide +kernel
theorem dX9_moth_0 : decode cX9_moth 0 = .ok (.iload_n 1, 1) := by decide +kernel
theorem dX9_moth_1 : decode cX9_moth 1 = .ok (.iconst 0, 1) := by decide +kernel
theorem dX9_moth_2 : decode cX9_moth 2 = .ok (.iconst 3, 1) := by decide +kernel
theorem dX9_moth_3 : decode cX9_moth 3 = .ok (.invokestatic 51, 3) := by decide +kernel
theorem dX9_moth_6 : decode cX9_moth 6 = .ok (.ifCond .eq 10, 3) := by decide +kernel
theorem dX9_moth_9 : decode cX9_moth 9 = .ok (.iload_n 2, 1) := by decide +kernel
theorem dX9_moth_10 : decode cX9_moth 10 = .ok (.invokestatic 59, 3) := by decide +kernel
theorem dX9_moth_13 : decode cX9_moth 13 = .ok (.ifCond .ne 5, 3) := by decide +kernel
theorem dX9_moth_16 : decode cX9_moth 16 = .ok (.iconst (-1), 1) := by decide +kernel
theorem dX9_moth_17 : decode cX9_moth 17 = .ok (.ireturn, 1) := by decide +kernel
theorem dX9_moth_18 : decode cX9_moth 18 = .ok (.iload_n 3, 1) := by decide +kernel
theorem dX9_moth_19 : decode cX9_moth 19 = .ok (.iconst 0, 1) := by decide +kernel
theorem dX9_moth_20 : decode cX9_moth 20 = .ok (.iconst 3, 1) := by decide +kernel
theorem dX9_moth_21 : decode cX9_moth 21 = .ok (.invokestatic 51, 3) := by decide +kernel
theorem dX9_moth_24 : decode cX9_moth 24 = .ok (.ifCond .ne 6, 3) := by decide +kernel
theorem dX9_moth_27 : decode cX9_moth 27 = .ok (.bipush (-2), 2) := by decide +kernel
theorem dX9_moth_29 : decode cX9_moth 29 = .ok (.ireturn, 1) := by decide +kernel
theorem dX9_moth_30 : decode cX9_moth 30 = .ok (.aload_n 0, 1) := by decide +kernel
theorem dX9_moth_31 : decode cX9_moth 31 = .ok (.getfield 7, 3) := by decide +kernel
theorem dX9_moth_34 : decode cX9_moth 34 = .ok (.bipush 50, 2) := by decide +kernel
theorem dX9_moth_36 : decode cX9_moth 36 = .ok (.iload_n 1, 1) := by decide +kernel
theorem dX9_moth_37 : decode cX9_moth 37 = .ok (.iadd, 1) := by decide +kernel
theorem dX9_moth_38 : decode cX9_moth 38 = .ok (.iload_n 2, 1) := by decide +kernel
theorem dX9_moth_39 : decode cX9_moth 39 = .ok (.iastore, 1) := by decide +kernel
theorem dX9_moth_40 : decode cX9_moth 40 = .ok (.aload_n 0, 1) := by decide +kernel
theorem dX9_moth_41 : decode cX9_moth 41 = .ok (.getfield 7, 3) := by decide +kernel
theorem dX9_moth_44 : decode cX9_moth 44 = .ok (.bipush 54, 2) := by decide +kernel
theorem dX9_moth_46 : decode cX9_moth 46 = .ok (.iload_n 1, 1) := by decide +kernel
theorem dX9_moth_47 : decode cX9_moth 47 = .ok (.iadd, 1) := by decide +kernel
theorem dX9_moth_48 : decode cX9_moth 48 = .ok (.iload_n 3, 1) := by decide +kernel
theorem dX9_moth_49 : decode cX9_moth 49 = .ok (.iastore, 1) := by decide +kernel
theorem dX9_moth_50 : decode cX9_moth 50 = .ok (.aload_n 0, 1) := by decide +kernel
theorem dX9_moth_51 : decode cX9_moth 51 = .ok (.getfield 7, 3) := by decide +kernel
theorem dX9_moth_54 : decode cX9_moth 54 = .ok (.bipush 61, 2) := by decide +kernel
theorem dX9_moth_56 : decode cX9_moth 56 = .ok (.dup2, 1) := by decide +kernel
theorem dX9_moth_57 : decode cX9_moth 57 = .ok (.iaload, 1) := by decide +kernel
theorem dX9_moth_58 : decode cX9_moth 58 = .ok (.iconst 1, 1) := by decide +kernel
theorem dX9_moth_59 : decode cX9_moth 59 = .ok (.iload_n 1, 1) := by decide +kernel
theorem dX9_moth_60 : decode cX9_moth 60 = .ok (.ishl, 1) := by decide +kernel
theorem dX9_moth_61 : decode cX9_moth 61 = .ok (.ior, 1) := by decide +kernel
theorem dX9_moth_62 : decode cX9_moth 62 = .ok (.iastore, 1) := by decide +kernel
theorem dX9_moth_63 : decode cX9_moth 63 = .ok (.iconst 0, 1) := by decide +kernel
theorem dX9_moth_64 : decode cX9_moth 64 = .ok (.istore 4, 2) := by decide +kernel
theorem dX9_moth_66 : decode cX9_moth 66 = .ok (.iconst 0, 1) := by decide +kernel
theorem dX9_moth_67 : decode cX9_moth 67 = .ok (.istore 5, 2) := by decide +kernel
theorem dX9_moth_69 : decode cX9_moth 69 = .ok (.iload 5, 2) := by decide +kernel
theorem dX9_moth_71 : decode cX9_moth 71 = .ok (.iconst 4, 1) := by decide +kernel
theorem dX9_moth_72 : decode cX9_moth 72 = .ok (.if_icmp .ge 26, 3) := by decide +kernel
theorem dX9_moth_75 : decode cX9_moth 75 = .ok (.iload 4, 2) := by decide +kernel
theorem dX9_moth_77 : decode cX9_moth 77 = .ok (.aload_n 0, 1) := by decide +kernel
theorem dX9_moth_78 : decode cX9_moth 78 = .ok (.getfield 7, 3) := by decide +kernel
theorem dX9_moth_81 : decode cX9_moth 81 = .ok (.bipush 61, 2) := by decide +kernel
theorem dX9_moth_83 : decode cX9_moth 83 = .ok (.iaload, 1) := by decide +kernel
theorem dX9_moth_84 : decode cX9_moth 84 = .ok (.iload 5, 2) := by decide +kernel
theorem dX9_moth_86 : decode cX9_moth 86 = .ok (.ishr, 1) := by decide +kernel
theorem dX9_moth_87 : decode cX9_moth 87 = .ok (.iconst 1, 1) := by decide +kernel
theorem dX9_moth_88 : decode cX9_moth 88 = .ok (.iand, 1) := by decide +kernel
theorem dX9_moth_89 : decode cX9_moth 89 = .ok (.iadd, 1) := by decide +kernel
theorem dX9_moth_90 : decode cX9_moth 90 = .ok (.istore 4, 2) := by decide +kernel
theorem dX9_moth_92 : decode cX9_moth 92 = .ok (.iinc 5 1, 3) := by decide +kernel
theorem dX9_moth_95 : decode cX9_moth 95 = .ok (.goto (-26), 3) := by decide +kernel
theorem dX9_moth_98 : decode cX9_moth 98 = .ok (.iload 4, 2) := by decide +kernel
theorem dX9_moth_100 : decode cX9_moth 100 = .ok (.ireturn, 1) := by decide +kernel
theorem dX9_spool_0 : decode cX9_spool 0 = .ok (.iload_n 1, 1) := by decide +kernel
theorem dX9_spool_1 : decode cX9_spool 1 = .ok (.iconst 1, 1) := by decide +kernel
theorem dX9_spool_2 : decode cX9_spool 2 = .ok (.iconst 3, 1) := by decide +kernel
theorem dX9_spool_3 : decode cX9_spool 3 = .ok (.invokestatic 51, 3) := by decide +kernel
theorem dX9_spool_6 : decode cX9_spool 6 = .ok (.ifCond .ne 5, 3) := by decide +kernel
theorem dX9_spool_9 : decode cX9_spool 9 = .ok (.iconst (-1), 1) := by decide +kernel
theorem dX9_spool_10 : decode cX9_spool 10 = .ok (.ireturn, 1) := by decide +kernel
theorem dX9_spool_11 : decode cX9_spool 11 = .ok (.iload_n 2, 1) := by decide +kernel
theorem dX9_spool_12 : decode cX9_spool 12 = .ok (.iconst 0, 1) := by decide +kernel
theorem dX9_spool_13 : decode cX9_spool 13 = .ok (.bipush 99, 2) := by decide +kernel
theorem dX9_spool_15 : decode cX9_spool 15 = .ok (.invokestatic 51, 3) := by decide +kernel
theorem dX9_spool_18 : decode cX9_spool 18 = .ok (.ifCond .ne 6, 3) := by decide +kernel
theorem dX9_spool_21 : decode cX9_spool 21 = .ok (.bipush (-2), 2) := by decide +kernel
theorem dX9_spool_23 : decode cX9_spool 23 = .ok (.ireturn, 1) := by decide +kernel
theorem dX9_spool_24 : decode cX9_spool 24 = .ok (.aload_n 0, 1) := by decide +kernel
theorem dX9_spool_25 : decode cX9_spool 25 = .ok (.getfield 7, 3) := by decide +kernel
theorem dX9_spool_28 : decode cX9_spool 28 = .ok (.bipush 57, 2) := by decide +kernel
theorem dX9_spool_30 : decode cX9_spool 30 = .ok (.iload_n 1, 1) := by decide +kernel
theorem dX9_spool_31 : decode cX9_spool 31 = .ok (.iadd, 1) := by decide +kernel
theorem dX9_spool_32 : decode cX9_spool 32 = .ok (.iaload, 1) := by decide +kernel
theorem dX9_spool_33 : decode cX9_spool 33 = .ok (.istore_n 3, 1) := by decide +kernel
theorem dX9_spool_34 : decode cX9_spool 34 = .ok (.aload_n 0, 1) := by decide +kernel
theorem dX9_spool_35 : decode cX9_spool 35 = .ok (.getfield 7, 3) := by decide +kernel
theorem dX9_spool_38 : decode cX9_spool 38 = .ok (.bipush 57, 2) := by decide +kernel
theorem dX9_spool_40 : decode cX9_spool 40 = .ok (.iload_n 1, 1) := by decide +kernel
theorem dX9_spool_41 : decode cX9_spool 41 = .ok (.iadd, 1) := by decide +kernel
theorem dX9_spool_42 : decode cX9_spool 42 = .ok (.iload_n 2, 1) := by decide +kernel
theorem dX9_spool_43 : decode cX9_spool 43 = .ok (.iastore, 1) := by decide +kernel
theorem dX9_spool_44 : decode cX9_spool 44 = .ok (.iload_n 3, 1) := by decide +kernel
theorem dX9_spool_45 : decode cX9_spool 45 = .ok (.ireturn, 1) := by decide +kernel
theorem dX9_say_0 : decode cX9_say 0 = .ok (.iload_n 1, 1) := by decide +kernel
theorem dX9_say_1 : decode cX9_say 1 = .ok (.bipush 33, 2) := by decide +kernel
theorem dX9_say_3 : decode cX9_say 3 = .ok (.bipush 126, 2) := by decide +kernel
theorem dX9_say_5 : decode cX9_say 5 = .ok (.invokestatic 51, 3) := by decide +kernel
theorem dX9_say_8 : decode cX9_say 8 = .ok (.ifCond .ne 6, 3) := by decide +kernel
theorem dX9_say_11 : decode cX9_say 11 = .ok (.bipush (-2), 2) := by decide +kernel
theorem dX9_say_13 : decode cX9_say 13 = .ok (.ireturn, 1) := by decide +kernel
theorem dX9_say_14 : decode cX9_say 14 = .ok (.aload_n 0, 1) := by decide +kernel
theorem dX9_say_15 : decode cX9_say 15 = .ok (.getfield 63, 3) := by decide +kernel
theorem dX9_say_18 : decode cX9_say 18 = .ok (.bipush 60, 2) := by decide +kernel
theorem dX9_say_20 : decode cX9_say 20 = .ok (.if_icmp .ne 6, 3) := by decide +kernel
theorem dX9_say_23 : decode cX9_say 23 = .ok (.bipush (-4), 2) := by decide +kernel
theorem dX9_say_25 : decode cX9_say 25 = .ok (.ireturn, 1) := by decide +kernel
theorem dX9_say_26 : decode cX9_say 26 = .ok (.aload_n 0, 1) := by decide +kernel
theorem dX9_say_27 : decode cX9_say 27 = .ok (.getfield 19, 3) := by decide +kernel
theorem dX9_say_30 : decode cX9_say 30 = .ok (.aload_n 0, 1) := by decide +kernel
theorem dX9_say_31 : decode cX9_say 31 = .ok (.getfield 63, 3) := by decide +kernel
theorem dX9_say_34 : decode cX9_say 34 = .ok (.iload_n 1, 1) := by decide +kernel
theorem dX9_say_35 : decode cX9_say 35 = .ok (.iastore, 1) := by decide +kernel
theorem dX9_say_36 : decode cX9_say 36 = .ok (.aload_n 0, 1) := by decide +kernel
theorem dX9_say_37 : decode cX9_say 37 = .ok (.dup, 1) := by decide +kernel
theorem dX9_say_38 : decode cX9_say 38 = .ok (.getfield 63, 3) := by decide +kernel
theorem dX9_say_41 : decode cX9_say 41 = .ok (.iconst 1, 1) := by decide +kernel
theorem dX9_say_42 : decode cX9_say 42 = .ok (.iadd, 1) := by decide +kernel
theorem dX9_say_43 : decode cX9_say 43 = .ok (.putfield 63, 3) := by decide +kernel
theorem dX9_say_46 : decode cX9_say 46 = .ok (.aload_n 0, 1) := by decide +kernel
theorem dX9_say_47 : decode cX9_say 47 = .ok (.getfield 63, 3) := by decide +kernel
theorem dX9_say_50 : decode cX9_say 50 = .ok (.ireturn, 1) := by decide +kernel
theorem dX9_wipe_0 : decode cX9_wipe 0 = .ok (.aload_n 0, 1) := by decide +kernel
theorem dX9_wipe_1 : decode cX9_wipe 1 = .ok (.getfield 63, 3) := by decide +kernel
theorem dX9_wipe_4 : decode cX9_wipe 4 = .ok (.istore_n 1, 1) := by decide +kernel
theorem dX9_wipe_5 : decode cX9_wipe 5 = .ok (.aload_n 0, 1) := by decide +kernel
theorem dX9_wipe_6 : decode cX9_wipe 6 = .ok (.iconst 0, 1) := by decide +kernel
theorem dX9_wipe_7 : decode cX9_wipe 7 = .ok (.putfield 63, 3) := by decide +kernel
theorem dX9_wipe_10 : decode cX9_wipe 10 = .ok (.iload_n 1, 1) := by decide +kernel
theorem dX9_wipe_11 : decode cX9_wipe 11 = .ok (.ireturn, 1) := by decide +kernel
theorem dX9_wayOf_0 : decode cX9_wayOf 0 = .ok (.iload_n 0, 1) := by decide +kernel
theorem dX9_wayOf_1 : decode cX9_wayOf 1 = .ok (.bipush 110, 2) := by decide +kernel
theorem dX9_wayOf_3 : decode cX9_wayOf 3 = .ok (.if_icmp .ne 7, 3) := by decide +kernel
theorem dX9_wayOf_6 : decode cX9_wayOf 6 = .ok (.iconst 0, 1) := by decide +kernel
theorem dX9_wayOf_7 : decode cX9_wayOf 7 = .ok (.goto 35, 3) := by decide +kernel
theorem dX9_wayOf_10 : decode cX9_wayOf 10 = .ok (.iload_n 0, 1) := by decide +kernel
theorem dX9_wayOf_11 : decode cX9_wayOf 11 = .ok (.bipush 101, 2) := by decide +kernel
theorem dX9_wayOf_13 : decode cX9_wayOf 13 = .ok (.if_icmp .ne 7, 3) := by decide +kernel
theorem dX9_wayOf_16 : decode cX9_wayOf 16 = .ok (.iconst 1, 1) := by decide +kernel
theorem dX9_wayOf_17 : decode cX9_wayOf 17 = .ok (.goto 25, 3) := by decide +kernel
theorem dX9_wayOf_20 : decode cX9_wayOf 20 = .ok (.iload_n 0, 1) := by decide +kernel
theorem dX9_wayOf_21 : decode cX9_wayOf 21 = .ok (.bipush 115, 2) := by decide +kernel
theorem dX9_wayOf_23 : decode cX9_wayOf 23 = .ok (.if_icmp .ne 7, 3) := by decide +kernel
theorem dX9_wayOf_26 : decode cX9_wayOf 26 = .ok (.iconst 2, 1) := by decide +kernel
theorem dX9_wayOf_27 : decode cX9_wayOf 27 = .ok (.goto 15, 3) := by decide +kernel
theorem dX9_wayOf_30 : decode cX9_wayOf 30 = .ok (.iload_n 0, 1) := by decide +kernel
theorem dX9_wayOf_31 : decode cX9_wayOf 31 = .ok (.bipush 119, 2) := by decide +kernel
theorem dX9_wayOf_33 : decode cX9_wayOf 33 = .ok (.if_icmp .ne 7, 3) := by decide +kernel
theorem dX9_wayOf_36 : decode cX9_wayOf 36 = .ok (.iconst 3, 1) := by decide +kernel
theorem dX9_wayOf_37 : decode cX9_wayOf 37 = .ok (.goto 5, 3) := by decide +kernel
theorem dX9_wayOf_40 : decode cX9_wayOf 40 = .ok (.bipush (-6), 2) := by decide +kernel
theorem dX9_wayOf_42 : decode cX9_wayOf 42 = .ok (.ireturn, 1) := by decide +kernel
theorem dX9_step_0 : decode cX9_step 0 = .ok (.iload_n 0, 1) := by decide +kernel
theorem dX9_step_1 : decode cX9_step 1 = .ok (.tableswitch 135 0 3 #[31, 79, 99, 117], 31) := by decide +kernel
theorem dX9_step_32 : decode cX9_step 32 = .ok (.iload_n 1, 1) := by decide +kernel
theorem dX9_step_33 : decode cX9_step 33 = .ok (.bipush 65, 2) := by decide +kernel
theorem dX9_step_35 : decode cX9_step 35 = .ok (.bipush 68, 2) := by decide +kernel
theorem dX9_step_37 : decode cX9_step 37 = .ok (.invokestatic 51, 3) := by decide +kernel
theorem dX9_step_40 : decode cX9_step 40 = .ok (.ifCond .eq 7, 3) := by decide +kernel
theorem dX9_step_43 : decode cX9_step 43 = .ok (.iconst 1, 1) := by decide +kernel
theorem dX9_step_44 : decode cX9_step 44 = .ok (.goto 35, 3) := by decide +kernel
theorem dX9_step_47 : decode cX9_step 47 = .ok (.iload_n 1, 1) := by decide +kernel
theorem dX9_step_48 : decode cX9_step 48 = .ok (.bipush 43, 2) := by decide +kernel
theorem dX9_step_50 : decode cX9_step 50 = .ok (.if_icmp .ne 7, 3) := by decide +kernel
theorem dX9_step_53 : decode cX9_step 53 = .ok (.iconst 2, 1) := by decide +kernel
theorem dX9_step_54 : decode cX9_step 54 = .ok (.goto 25, 3) := by decide +kernel
theorem dX9_step_57 : decode cX9_step 57 = .ok (.iload_n 1, 1) := by decide +kernel
theorem dX9_step_58 : decode cX9_step 58 = .ok (.bipush 37, 2) := by decide +kernel
theorem dX9_step_60 : decode cX9_step 60 = .ok (.if_icmp .ne 7, 3) := by decide +kernel
theorem dX9_step_63 : decode cX9_step 63 = .ok (.iconst 3, 1) := by decide +kernel
theorem dX9_step_64 : decode cX9_step 64 = .ok (.goto 15, 3) := by decide +kernel
theorem dX9_step_67 : decode cX9_step 67 = .ok (.iload_n 1, 1) := by decide +kernel
theorem dX9_step_68 : decode cX9_step 68 = .ok (.bipush 46, 2) := by decide +kernel
theorem dX9_step_70 : decode cX9_step 70 = .ok (.if_icmp .ne 7, 3) := by decide +kernel
theorem dX9_step_73 : decode cX9_step 73 = .ok (.iconst 0, 1) := by decide +kernel
theorem dX9_step_74 : decode cX9_step 74 = .ok (.goto 5, 3) := by decide +kernel
theorem dX9_step_77 : decode cX9_step 77 = .ok (.bipush (-6), 2) := by decide +kernel
theorem dX9_step_79 : decode cX9_step 79 = .ok (.ireturn, 1) := by decide +kernel
theorem dX9_step_80 : decode cX9_step 80 = .ok (.iload_n 1, 1) := by decide +kernel
theorem dX9_step_81 : decode cX9_step 81 = .ok (.invokestatic 67, 3) := by decide +kernel
theorem dX9_step_84 : decode cX9_step 84 = .ok (.ifCond .ge 9, 3) := by decide +kernel
theorem dX9_step_87 : decode cX9_step 87 = .ok (.iload_n 1, 1) := by decide +kernel
theorem dX9_step_88 : decode cX9_step 88 = .ok (.bipush 33, 2) := by decide +kernel
theorem dX9_step_90 : decode cX9_step 90 = .ok (.if_icmp .ne 7, 3) := by decide +kernel
theorem dX9_step_93 : decode cX9_step 93 = .ok (.iconst 0, 1) := by decide +kernel
theorem dX9_step_94 : decode cX9_step 94 = .ok (.goto 5, 3) := by decide +kernel
theorem dX9_step_97 : decode cX9_step 97 = .ok (.bipush (-6), 2) := by decide +kernel
theorem dX9_step_99 : decode cX9_step 99 = .ok (.ireturn, 1) := by decide +kernel
theorem dX9_step_100 : decode cX9_step 100 = .ok (.iload_n 1, 1) := by decide +kernel
theorem dX9_step_101 : decode cX9_step 101 = .ok (.bipush 97, 2) := by decide +kernel
theorem dX9_step_103 : decode cX9_step 103 = .ok (.bipush 121, 2) := by decide +kernel
theorem dX9_step_105 : decode cX9_step 105 = .ok (.invokestatic 51, 3) := by decide +kernel
theorem dX9_step_108 : decode cX9_step 108 = .ok (.ifCond .eq 7, 3) := by decide +kernel
theorem dX9_step_111 : decode cX9_step 111 = .ok (.iconst 0, 1) := by decide +kernel
theorem dX9_step_112 : decode cX9_step 112 = .ok (.goto 5, 3) := by decide +kernel
theorem dX9_step_115 : decode cX9_step 115 = .ok (.bipush (-6), 2) := by decide +kernel
theorem dX9_step_117 : decode cX9_step 117 = .ok (.ireturn, 1) := by decide +kernel
theorem dX9_step_118 : decode cX9_step 118 = .ok (.iload_n 1, 1) := by decide +kernel
theorem dX9_step_119 : decode cX9_step 119 = .ok (.bipush 97, 2) := by decide +kernel
theorem dX9_step_121 : decode cX9_step 121 = .ok (.bipush 121, 2) := by decide +kernel
theorem dX9_step_123 : decode cX9_step 123 = .ok (.invokestatic 51, 3) := by decide +kernel
theorem dX9_step_126 : decode cX9_step 126 = .ok (.ifCond .eq 7, 3) := by decide +kernel
theorem dX9_step_129 : decode cX9_step 129 = .ok (.iconst 4, 1) := by decide +kernel
theorem dX9_step_130 : decode cX9_step 130 = .ok (.goto 5, 3) := by decide +kernel
theorem dX9_step_133 : decode cX9_step 133 = .ok (.bipush (-6), 2) := by decide +kernel
theorem dX9_step_135 : decode cX9_step 135 = .ok (.ireturn, 1) := by decide +kernel
theorem dX9_step_136 : decode cX9_step 136 = .ok (.iload_n 1, 1) := by decide +kernel
theorem dX9_step_137 : decode cX9_step 137 = .ok (.bipush 49, 2) := by decide +kernel
theorem dX9_step_139 : decode cX9_step 139 = .ok (.bipush 51, 2) := by decide +kernel
theorem dX9_step_141 : decode cX9_step 141 = .ok (.invokestatic 51, 3) := by decide +kernel
theorem dX9_step_144 : decode cX9_step 144 = .ok (.ifCond .eq 7, 3) := by decide +kernel
theorem dX9_step_147 : decode cX9_step 147 = .ok (.iconst 0, 1) := by decide +kernel
theorem dX9_step_148 : decode cX9_step 148 = .ok (.goto 5, 3) := by decide +kernel
theorem dX9_step_151 : decode cX9_step 151 = .ok (.bipush (-6), 2) := by decide +kernel
theorem dX9_step_153 : decode cX9_step 153 = .ok (.ireturn, 1) := by decide +kernel
theorem dX9_faultOf_0 : decode cX9_faultOf 0 = .ok (.iconst 0, 1) := by decide +kernel
theorem dX9_faultOf_1 : decode cX9_faultOf 1 = .ok (.istore_n 1, 1) := by decide +kernel
theorem dX9_faultOf_2 : decode cX9_faultOf 2 = .ok (.iconst 0, 1) := by decide +kernel
theorem dX9_faultOf_3 : decode cX9_faultOf 3 = .ok (.istore_n 2, 1) := by decide +kernel
theorem dX9_faultOf_4 : decode cX9_faultOf 4 = .ok (.iload_n 2, 1) := by decide +kernel
theorem dX9_faultOf_5 : decode cX9_faultOf 5 = .ok (.aload_n 0, 1) := by decide +kernel
theorem dX9_faultOf_6 : decode cX9_faultOf 6 = .ok (.getfield 63, 3) := by decide +kernel
theorem dX9_faultOf_9 : decode cX9_faultOf 9 = .ok (.if_icmp .ge 26, 3) := by decide +kernel
theorem dX9_faultOf_12 : decode cX9_faultOf 12 = .ok (.iload_n 1, 1) := by decide +kernel
theorem dX9_faultOf_13 : decode cX9_faultOf 13 = .ok (.aload_n 0, 1) := by decide +kernel
theorem dX9_faultOf_14 : decode cX9_faultOf 14 = .ok (.getfield 19, 3) := by decide +kernel
theorem dX9_faultOf_17 : decode cX9_faultOf 17 = .ok (.iload_n 2, 1) := by decide +kernel
theorem dX9_faultOf_18 : decode cX9_faultOf 18 = .ok (.iaload, 1) := by decide +kernel
theorem dX9_faultOf_19 : decode cX9_faultOf 19 = .ok (.invokestatic 71, 3) := by decide +kernel
theorem dX9_faultOf_22 : decode cX9_faultOf 22 = .ok (.istore_n 1, 1) := by decide +kernel
theorem dX9_faultOf_23 : decode cX9_faultOf 23 = .ok (.iload_n 1, 1) := by decide +kernel
theorem dX9_faultOf_24 : decode cX9_faultOf 24 = .ok (.ifCond .ge 5, 3) := by decide +kernel
theorem dX9_faultOf_27 : decode cX9_faultOf 27 = .ok (.iload_n 2, 1) := by decide +kernel
theorem dX9_faultOf_28 : decode cX9_faultOf 28 = .ok (.ireturn, 1) := by decide +kernel
theorem dX9_faultOf_29 : decode cX9_faultOf 29 = .ok (.iinc 2 1, 3) := by decide +kernel
theorem dX9_faultOf_32 : decode cX9_faultOf 32 = .ok (.goto (-28), 3) := by decide +kernel
theorem dX9_faultOf_35 : decode cX9_faultOf 35 = .ok (.iload_n 1, 1) := by decide +kernel
theorem dX9_faultOf_36 : decode cX9_faultOf 36 = .ok (.ifCond .ne 8, 3) := by decide +kernel
theorem dX9_faultOf_39 : decode cX9_faultOf 39 = .ok (.bipush (-6), 2) := by decide +kernel
theorem dX9_faultOf_41 : decode cX9_faultOf 41 = .ok (.goto 7, 3) := by decide +kernel
theorem dX9_faultOf_44 : decode cX9_faultOf 44 = .ok (.aload_n 0, 1) := by decide +kernel
theorem dX9_faultOf_45 : decode cX9_faultOf 45 = .ok (.getfield 63, 3) := by decide +kernel
theorem dX9_faultOf_48 : decode cX9_faultOf 48 = .ok (.ireturn, 1) := by decide +kernel
theorem dX9_fault_0 : decode cX9_fault 0 = .ok (.aload_n 0, 1) := by decide +kernel
theorem dX9_fault_1 : decode cX9_fault 1 = .ok (.invokevirtual 75, 3) := by decide +kernel
theorem dX9_fault_4 : decode cX9_fault 4 = .ok (.ireturn, 1) := by decide +kernel
theorem dX9_asNow_0 : decode cX9_asNow 0 = .ok (.iconst 0, 1) := by decide +kernel
theorem dX9_asNow_1 : decode cX9_asNow 1 = .ok (.istore_n 1, 1) := by decide +kernel
theorem dX9_asNow_2 : decode cX9_asNow 2 = .ok (.iload_n 1, 1) := by decide +kernel
theorem dX9_asNow_3 : decode cX9_asNow 3 = .ok (.bipush 63, 2) := by decide +kernel
theorem dX9_asNow_5 : decode cX9_asNow 5 = .ok (.if_icmp .ge 21, 3) := by decide +kernel
theorem dX9_asNow_8 : decode cX9_asNow 8 = .ok (.aload_n 0, 1) := by decide +kernel
theorem dX9_asNow_9 : decode cX9_asNow 9 = .ok (.getfield 13, 3) := by decide +kernel
theorem dX9_asNow_12 : decode cX9_asNow 12 = .ok (.iload_n 1, 1) := by decide +kernel
theorem dX9_asNow_13 : decode cX9_asNow 13 = .ok (.aload_n 0, 1) := by decide +kernel
theorem dX9_asNow_14 : decode cX9_asNow 14 = .ok (.getfield 7, 3) := by decide +kernel
theorem dX9_asNow_17 : decode cX9_asNow 17 = .ok (.iload_n 1, 1) := by decide +kernel
theorem dX9_asNow_18 : decode cX9_asNow 18 = .ok (.iaload, 1) := by decide +kernel
theorem dX9_asNow_19 : decode cX9_asNow 19 = .ok (.iastore, 1) := by decide +kernel
theorem dX9_asNow_20 : decode cX9_asNow 20 = .ok (.iinc 1 1, 3) := by decide +kernel
theorem dX9_asNow_23 : decode cX9_asNow 23 = .ok (.goto (-21), 3) := by decide +kernel
theorem dX9_asNow_26 : decode cX9_asNow 26 = .ok (.aload_n 0, 1) := by decide +kernel
theorem dX9_asNow_27 : decode cX9_asNow 27 = .ok (.iconst 0, 1) := by decide +kernel
theorem dX9_asNow_28 : decode cX9_asNow 28 = .ok (.putfield 79, 3) := by decide +kernel
theorem dX9_asNow_31 : decode cX9_asNow 31 = .ok (.aload_n 0, 1) := by decide +kernel
theorem dX9_asNow_32 : decode cX9_asNow 32 = .ok (.bipush (-6), 2) := by decide +kernel
theorem dX9_asNow_34 : decode cX9_asNow 34 = .ok (.putfield 82, 3) := by decide +kernel
theorem dX9_asNow_37 : decode cX9_asNow 37 = .ok (.aload_n 0, 1) := by decide +kernel
theorem dX9_asNow_38 : decode cX9_asNow 38 = .ok (.bipush (-6), 2) := by decide +kernel
theorem dX9_asNow_40 : decode cX9_asNow 40 = .ok (.putfield 85, 3) := by decide +kernel
theorem dX9_asNow_43 : decode cX9_asNow 43 = .ok (.return_, 1) := by decide +kernel
theorem dX9_flying_0 : decode cX9_flying 0 = .ok (.iload_n 1, 1) := by decide +kernel
theorem dX9_flying_1 : decode cX9_flying 1 = .ok (.iconst 0, 1) := by decide +kernel
theorem dX9_flying_2 : decode cX9_flying 2 = .ok (.iconst 3, 1) := by decide +kernel
theorem dX9_flying_3 : decode cX9_flying 3 = .ok (.invokestatic 51, 3) := by decide +kernel
theorem dX9_flying_6 : decode cX9_flying 6 = .ok (.ifCond .eq 21, 3) := by decide +kernel
theorem dX9_flying_9 : decode cX9_flying 9 = .ok (.aload_n 0, 1) := by decide +kernel
theorem dX9_flying_10 : decode cX9_flying 10 = .ok (.getfield 13, 3) := by decide +kernel
theorem dX9_flying_13 : decode cX9_flying 13 = .ok (.bipush 61, 2) := by decide +kernel
theorem dX9_flying_15 : decode cX9_flying 15 = .ok (.iaload, 1) := by decide +kernel
theorem dX9_flying_16 : decode cX9_flying 16 = .ok (.iload_n 1, 1) := by decide +kernel
theorem dX9_flying_17 : decode cX9_flying 17 = .ok (.invokestatic 55, 3) := by decide +kernel
theorem dX9_flying_20 : decode cX9_flying 20 = .ok (.ifCond .eq 7, 3) := by decide +kernel
theorem dX9_flying_23 : decode cX9_flying 23 = .ok (.iconst 1, 1) := by decide +kernel
theorem dX9_flying_24 : decode cX9_flying 24 = .ok (.goto 4, 3) := by decide +kernel
theorem dX9_flying_27 : decode cX9_flying 27 = .ok (.iconst 0, 1) := by decide +kernel
theorem dX9_flying_28 : decode cX9_flying 28 = .ok (.ireturn, 1) := by decide +kernel
theorem dX9_turn_0 : decode cX9_turn 0 = .ok (.aload_n 0, 1) := by decide +kernel
theorem dX9_turn_1 : decode cX9_turn 1 = .ok (.iload_n 1, 1) := by decide +kernel
theorem dX9_turn_2 : decode cX9_turn 2 = .ok (.invokevirtual 88, 3) := by decide +kernel
theorem dX9_turn_5 : decode cX9_turn 5 = .ok (.ifCond .ne 5, 3) := by decide +kernel
theorem dX9_turn_8 : decode cX9_turn 8 = .ok (.iconst 1, 1) := by decide +kernel
theorem dX9_turn_9 : decode cX9_turn 9 = .ok (.ireturn, 1) := by decide +kernel
theorem dX9_turn_10 : decode cX9_turn 10 = .ok (.aload_n 0, 1) := by decide +kernel
theorem dX9_turn_11 : decode cX9_turn 11 = .ok (.getfield 13, 3) := by decide +kernel
theorem dX9_turn_14 : decode cX9_turn 14 = .ok (.bipush 54, 2) := by decide +kernel
theorem dX9_turn_16 : decode cX9_turn 16 = .ok (.iload_n 1, 1) := by decide +kernel
theorem dX9_turn_17 : decode cX9_turn 17 = .ok (.iadd, 1) := by decide +kernel
theorem dX9_turn_18 : decode cX9_turn 18 = .ok (.iaload, 1) := by decide +kernel
theorem dX9_turn_19 : decode cX9_turn 19 = .ok (.iload_n 2, 1) := by decide +kernel
theorem dX9_turn_20 : decode cX9_turn 20 = .ok (.if_icmp .ne 5, 3) := by decide +kernel
theorem dX9_turn_23 : decode cX9_turn 23 = .ok (.iconst 2, 1) := by decide +kernel
theorem dX9_turn_24 : decode cX9_turn 24 = .ok (.ireturn, 1) := by decide +kernel
theorem dX9_turn_25 : decode cX9_turn 25 = .ok (.aload_n 0, 1) := by decide +kernel
theorem dX9_turn_26 : decode cX9_turn 26 = .ok (.getfield 13, 3) := by decide +kernel
theorem dX9_turn_29 : decode cX9_turn 29 = .ok (.bipush 54, 2) := by decide +kernel
theorem dX9_turn_31 : decode cX9_turn 31 = .ok (.iload_n 1, 1) := by decide +kernel
theorem dX9_turn_32 : decode cX9_turn 32 = .ok (.iadd, 1) := by decide +kernel
theorem dX9_turn_33 : decode cX9_turn 33 = .ok (.iload_n 2, 1) := by decide +kernel
theorem dX9_turn_34 : decode cX9_turn 34 = .ok (.iastore, 1) := by decide +kernel
theorem dX9_turn_35 : decode cX9_turn 35 = .ok (.iconst 0, 1) := by decide +kernel
theorem dX9_turn_36 : decode cX9_turn 36 = .ok (.ireturn, 1) := by decide +kernel
theorem dX9_catchIt_0 : decode cX9_catchIt 0 = .ok (.aload_n 0, 1) := by decide +kernel
theorem dX9_catchIt_1 : decode cX9_catchIt 1 = .ok (.iload_n 1, 1) := by decide +kernel
theorem dX9_catchIt_2 : decode cX9_catchIt 2 = .ok (.invokevirtual 88, 3) := by decide +kernel
theorem dX9_catchIt_5 : decode cX9_catchIt 5 = .ok (.ifCond .ne 5, 3) := by decide +kernel
theorem dX9_catchIt_8 : decode cX9_catchIt 8 = .ok (.iconst 1, 1) := by decide +kernel
theorem dX9_catchIt_9 : decode cX9_catchIt 9 = .ok (.ireturn, 1) := by decide +kernel
theorem dX9_catchIt_10 : decode cX9_catchIt 10 = .ok (.aload_n 0, 1) := by decide +kernel
theorem dX9_catchIt_11 : decode cX9_catchIt 11 = .ok (.getfield 13, 3) := by decide +kernel
theorem dX9_catchIt_14 : decode cX9_catchIt 14 = .ok (.bipush 61, 2) := by decide +kernel
theorem dX9_catchIt_16 : decode cX9_catchIt 16 = .ok (.dup2, 1) := by decide +kernel
theorem dX9_catchIt_17 : decode cX9_catchIt 17 = .ok (.iaload, 1) := by decide +kernel
theorem dX9_catchIt_18 : decode cX9_catchIt 18 = .ok (.iconst 1, 1) := by decide +kernel
theorem dX9_catchIt_19 : decode cX9_catchIt 19 = .ok (.iload_n 1, 1) := by decide +kernel
theorem dX9_catchIt_20 : decode cX9_catchIt 20 = .ok (.ishl, 1) := by decide +kernel
theorem dX9_catchIt_21 : decode cX9_catchIt 21 = .ok (.iconst (-1), 1) := by decide +kernel
theorem dX9_catchIt_22 : decode cX9_catchIt 22 = .ok (.ixor, 1) := by decide +kernel
theorem dX9_catchIt_23 : decode cX9_catchIt 23 = .ok (.iand, 1) := by decide +kernel
theorem dX9_catchIt_24 : decode cX9_catchIt 24 = .ok (.iastore, 1) := by decide +kernel
theorem dX9_catchIt_25 : decode cX9_catchIt 25 = .ok (.iconst 0, 1) := by decide +kernel
theorem dX9_catchIt_26 : decode cX9_catchIt 26 = .ok (.ireturn, 1) := by decide +kernel
theorem dX9_strew_0 : decode cX9_strew 0 = .ok (.aload_n 0, 1) := by decide +kernel
theorem dX9_strew_1 : decode cX9_strew 1 = .ok (.getfield 13, 3) := by decide +kernel
theorem dX9_strew_4 : decode cX9_strew 4 = .ok (.bipush 25, 2) := by decide +kernel
theorem dX9_strew_6 : decode cX9_strew 6 = .ok (.iload_n 1, 1) := by decide +kernel
theorem dX9_strew_7 : decode cX9_strew 7 = .ok (.iadd, 1) := by decide +kernel
theorem dX9_strew_8 : decode cX9_strew 8 = .ok (.iaload, 1) := by decide +kernel
theorem dX9_strew_9 : decode cX9_strew 9 = .ok (.iconst 2, 1) := by decide +kernel
theorem dX9_strew_10 : decode cX9_strew 10 = .ok (.if_icmp .le 5, 3) := by decide +kernel
theorem dX9_strew_13 : decode cX9_strew 13 = .ok (.iconst 3, 1) := by decide +kernel
theorem dX9_strew_14 : decode cX9_strew 14 = .ok (.ireturn, 1) := by decide +kernel
theorem dX9_strew_15 : decode cX9_strew 15 = .ok (.aload_n 0, 1) := by decide +kernel
theorem dX9_strew_16 : decode cX9_strew 16 = .ok (.getfield 13, 3) := by decide +kernel
theorem dX9_strew_19 : decode cX9_strew 19 = .ok (.bipush 25, 2) := by decide +kernel
theorem dX9_strew_21 : decode cX9_strew 21 = .ok (.iload_n 1, 1) := by decide +kernel
theorem dX9_strew_22 : decode cX9_strew 22 = .ok (.iadd, 1) := by decide +kernel
theorem dX9_strew_23 : decode cX9_strew 23 = .ok (.iconst 3, 1) := by decide +kernel
theorem dX9_strew_24 : decode cX9_strew 24 = .ok (.iastore, 1) := by decide +kernel
theorem dX9_strew_25 : decode cX9_strew 25 = .ok (.iconst 0, 1) := by decide +kernel
theorem dX9_strew_26 : decode cX9_strew 26 = .ok (.ireturn, 1) := by decide +kernel
theorem dX9_darn_0 : decode cX9_darn 0 = .ok (.aload_n 0, 1) := by decide +kernel
theorem dX9_darn_1 : decode cX9_darn 1 = .ok (.getfield 13, 3) := by decide +kernel
theorem dX9_darn_4 : decode cX9_darn 4 = .ok (.iload_n 1, 1) := by decide +kernel
theorem dX9_darn_5 : decode cX9_darn 5 = .ok (.iaload, 1) := by decide +kernel
theorem dX9_darn_6 : decode cX9_darn 6 = .ok (.ifCond .eq 5, 3) := by decide +kernel
theorem dX9_darn_9 : decode cX9_darn 9 = .ok (.iconst 4, 1) := by decide +kernel
theorem dX9_darn_10 : decode cX9_darn 10 = .ok (.ireturn, 1) := by decide +kernel
theorem dX9_darn_11 : decode cX9_darn 11 = .ok (.aload_n 0, 1) := by decide +kernel
theorem dX9_darn_12 : decode cX9_darn 12 = .ok (.getfield 13, 3) := by decide +kernel
theorem dX9_darn_15 : decode cX9_darn 15 = .ok (.bipush 57, 2) := by decide +kernel
theorem dX9_darn_17 : decode cX9_darn 17 = .ok (.iload_n 2, 1) := by decide +kernel
theorem dX9_darn_18 : decode cX9_darn 18 = .ok (.iadd, 1) := by decide +kernel
theorem dX9_darn_19 : decode cX9_darn 19 = .ok (.iaload, 1) := by decide +kernel
theorem dX9_darn_20 : decode cX9_darn 20 = .ok (.ifCond .ne 5, 3) := by decide +kernel
theorem dX9_darn_23 : decode cX9_darn 23 = .ok (.iconst 5, 1) := by decide +kernel
theorem dX9_darn_24 : decode cX9_darn 24 = .ok (.ireturn, 1) := by decide +kernel
theorem dX9_darn_25 : decode cX9_darn 25 = .ok (.aload_n 0, 1) := by decide +kernel
theorem dX9_darn_26 : decode cX9_darn 26 = .ok (.getfield 13, 3) := by decide +kernel
theorem dX9_darn_29 : decode cX9_darn 29 = .ok (.bipush 57, 2) := by decide +kernel
theorem dX9_darn_31 : decode cX9_darn 31 = .ok (.iload_n 2, 1) := by decide +kernel
theorem dX9_darn_32 : decode cX9_darn 32 = .ok (.iadd, 1) := by decide +kernel
theorem dX9_darn_33 : decode cX9_darn 33 = .ok (.dup2, 1) := by decide +kernel
theorem dX9_darn_34 : decode cX9_darn 34 = .ok (.iaload, 1) := by decide +kernel
theorem dX9_darn_35 : decode cX9_darn 35 = .ok (.iconst 1, 1) := by decide +kernel
theorem dX9_darn_36 : decode cX9_darn 36 = .ok (.isub, 1) := by decide +kernel
theorem dX9_darn_37 : decode cX9_darn 37 = .ok (.iastore, 1) := by decide +kernel
theorem dX9_darn_38 : decode cX9_darn 38 = .ok (.aload_n 0, 1) := by decide +kernel
theorem dX9_darn_39 : decode cX9_darn 39 = .ok (.getfield 13, 3) := by decide +kernel
theorem dX9_darn_42 : decode cX9_darn 42 = .ok (.iload_n 1, 1) := by decide +kernel
theorem dX9_darn_43 : decode cX9_darn 43 = .ok (.iload_n 2, 1) := by decide +kernel
theorem dX9_darn_44 : decode cX9_darn 44 = .ok (.iconst 1, 1) := by decide +kernel
theorem dX9_darn_45 : decode cX9_darn 45 = .ok (.if_icmp .ne 7, 3) := by decide +kernel
theorem dX9_darn_48 : decode cX9_darn 48 = .ok (.iconst 2, 1) := by decide +kernel
theorem dX9_darn_49 : decode cX9_darn 49 = .ok (.goto 13, 3) := by decide +kernel
theorem dX9_darn_52 : decode cX9_darn 52 = .ok (.iload_n 2, 1) := by decide +kernel
theorem dX9_darn_53 : decode cX9_darn 53 = .ok (.iconst 2, 1) := by decide +kernel
theorem dX9_darn_54 : decode cX9_darn 54 = .ok (.if_icmp .ne 7, 3) := by decide +kernel
theorem dX9_darn_57 : decode cX9_darn 57 = .ok (.iconst 3, 1) := by decide +kernel
theorem dX9_darn_58 : decode cX9_darn 58 = .ok (.goto 4, 3) := by decide +kernel
theorem dX9_darn_61 : decode cX9_darn 61 = .ok (.iconst 5, 1) := by decide +kernel
theorem dX9_darn_62 : decode cX9_darn 62 = .ok (.iastore, 1) := by decide +kernel
theorem dX9_darn_63 : decode cX9_darn 63 = .ok (.iconst 0, 1) := by decide +kernel
theorem dX9_darn_64 : decode cX9_darn 64 = .ok (.ireturn, 1) := by decide +kernel
theorem dX9_fly_0 : decode cX9_fly 0 = .ok (.iconst 0, 1) := by decide +kernel
theorem dX9_fly_1 : decode cX9_fly 1 = .ok (.istore_n 2, 1) := by decide +kernel
theorem dX9_fly_2 : decode cX9_fly 2 = .ok (.iload_n 2, 1) := by decide +kernel
theorem dX9_fly_3 : decode cX9_fly 3 = .ok (.iconst 4, 1) := by decide +kernel
theorem dX9_fly_4 : decode cX9_fly 4 = .ok (.if_icmp .ge 118, 3) := by decide +kernel
theorem dX9_fly_7 : decode cX9_fly 7 = .ok (.aload_n 0, 1) := by decide +kernel
theorem dX9_fly_8 : decode cX9_fly 8 = .ok (.getfield 13, 3) := by decide +kernel
theorem dX9_fly_11 : decode cX9_fly 11 = .ok (.bipush 54, 2) := by decide +kernel
theorem dX9_fly_13 : decode cX9_fly 13 = .ok (.iload_n 1, 1) := by decide +kernel
theorem dX9_fly_14 : decode cX9_fly 14 = .ok (.iadd, 1) := by decide +kernel
theorem dX9_fly_15 : decode cX9_fly 15 = .ok (.iaload, 1) := by decide +kernel
theorem dX9_fly_16 : decode cX9_fly 16 = .ok (.iload_n 2, 1) := by decide +kernel
theorem dX9_fly_17 : decode cX9_fly 17 = .ok (.iadd, 1) := by decide +kernel
theorem dX9_fly_18 : decode cX9_fly 18 = .ok (.iconst 4, 1) := by decide +kernel
theorem dX9_fly_19 : decode cX9_fly 19 = .ok (.irem, 1) := by decide +kernel
theorem dX9_fly_20 : decode cX9_fly 20 = .ok (.istore_n 3, 1) := by decide +kernel
theorem dX9_fly_21 : decode cX9_fly 21 = .ok (.aload_n 0, 1) := by decide +kernel
theorem dX9_fly_22 : decode cX9_fly 22 = .ok (.getfield 13, 3) := by decide +kernel
theorem dX9_fly_25 : decode cX9_fly 25 = .ok (.bipush 50, 2) := by decide +kernel
theorem dX9_fly_27 : decode cX9_fly 27 = .ok (.iload_n 1, 1) := by decide +kernel
theorem dX9_fly_28 : decode cX9_fly 28 = .ok (.iadd, 1) := by decide +kernel
theorem dX9_fly_29 : decode cX9_fly 29 = .ok (.iaload, 1) := by decide +kernel
theorem dX9_fly_30 : decode cX9_fly 30 = .ok (.iload_n 3, 1) := by decide +kernel
theorem dX9_fly_31 : decode cX9_fly 31 = .ok (.invokestatic 91, 3) := by decide +kernel
theorem dX9_fly_34 : decode cX9_fly 34 = .ok (.istore 4, 2) := by decide +kernel
theorem dX9_fly_36 : decode cX9_fly 36 = .ok (.iload 4, 2) := by decide +kernel
theorem dX9_fly_38 : decode cX9_fly 38 = .ok (.ifCond .lt 78, 3) := by decide +kernel
theorem dX9_fly_41 : decode cX9_fly 41 = .ok (.aload_n 0, 1) := by decide +kernel
theorem dX9_fly_42 : decode cX9_fly 42 = .ok (.getfield 13, 3) := by decide +kernel
theorem dX9_fly_45 : decode cX9_fly 45 = .ok (.bipush 25, 2) := by decide +kernel
theorem dX9_fly_47 : decode cX9_fly 47 = .ok (.iload 4, 2) := by decide +kernel
theorem dX9_fly_49 : decode cX9_fly 49 = .ok (.iadd, 1) := by decide +kernel
theorem dX9_fly_50 : decode cX9_fly 50 = .ok (.iaload, 1) := by decide +kernel
theorem dX9_fly_51 : decode cX9_fly 51 = .ok (.ifCond .ne 65, 3) := by decide +kernel
theorem dX9_fly_54 : decode cX9_fly 54 = .ok (.aload_n 0, 1) := by decide +kernel
theorem dX9_fly_55 : decode cX9_fly 55 = .ok (.getfield 13, 3) := by decide +kernel
theorem dX9_fly_58 : decode cX9_fly 58 = .ok (.iload 4, 2) := by decide +kernel
theorem dX9_fly_60 : decode cX9_fly 60 = .ok (.iaload, 1) := by decide +kernel
theorem dX9_fly_61 : decode cX9_fly 61 = .ok (.iconst 4, 1) := by decide +kernel
theorem dX9_fly_62 : decode cX9_fly 62 = .ok (.if_icmp .ne 24, 3) := by decide +kernel
theorem dX9_fly_65 : decode cX9_fly 65 = .ok (.aload_n 0, 1) := by decide +kernel
theorem dX9_fly_66 : decode cX9_fly 66 = .ok (.getfield 82, 3) := by decide +kernel
theorem dX9_fly_69 : decode cX9_fly 69 = .ok (.ifCond .ge 17, 3) := by decide +kernel
theorem dX9_fly_72 : decode cX9_fly 72 = .ok (.aload_n 0, 1) := by decide +kernel
theorem dX9_fly_73 : decode cX9_fly 73 = .ok (.aload_n 0, 1) := by decide +kernel
theorem dX9_fly_74 : decode cX9_fly 74 = .ok (.getfield 79, 3) := by decide +kernel
theorem dX9_fly_77 : decode cX9_fly 77 = .ok (.putfield 82, 3) := by decide +kernel
theorem dX9_fly_80 : decode cX9_fly 80 = .ok (.aload_n 0, 1) := by decide +kernel
theorem dX9_fly_81 : decode cX9_fly 81 = .ok (.iload 4, 2) := by decide +kernel
theorem dX9_fly_83 : decode cX9_fly 83 = .ok (.putfield 85, 3) := by decide +kernel
theorem dX9_fly_86 : decode cX9_fly 86 = .ok (.aload_n 0, 1) := by decide +kernel
theorem dX9_fly_87 : decode cX9_fly 87 = .ok (.getfield 13, 3) := by decide +kernel
theorem dX9_fly_90 : decode cX9_fly 90 = .ok (.bipush 50, 2) := by decide +kernel
theorem dX9_fly_92 : decode cX9_fly 92 = .ok (.iload_n 1, 1) := by decide +kernel
theorem dX9_fly_93 : decode cX9_fly 93 = .ok (.iadd, 1) := by decide +kernel
theorem dX9_fly_94 : decode cX9_fly 94 = .ok (.iload 4, 2) := by decide +kernel
theorem dX9_fly_96 : decode cX9_fly 96 = .ok (.iastore, 1) := by decide +kernel
theorem dX9_fly_97 : decode cX9_fly 97 = .ok (.aload_n 0, 1) := by decide +kernel
theorem dX9_fly_98 : decode cX9_fly 98 = .ok (.getfield 13, 3) := by decide +kernel
theorem dX9_fly_101 : decode cX9_fly 101 = .ok (.bipush 54, 2) := by decide +kernel
theorem dX9_fly_103 : decode cX9_fly 103 = .ok (.iload_n 1, 1) := by decide +kernel
theorem dX9_fly_104 : decode cX9_fly 104 = .ok (.iadd, 1) := by decide +kernel
theorem dX9_fly_105 : decode cX9_fly 105 = .ok (.iload_n 3, 1) := by decide +kernel
theorem dX9_fly_106 : decode cX9_fly 106 = .ok (.iastore, 1) := by decide +kernel
theorem dX9_fly_107 : decode cX9_fly 107 = .ok (.aload_n 0, 1) := by decide +kernel
theorem dX9_fly_108 : decode cX9_fly 108 = .ok (.getfield 13, 3) := by decide +kernel
theorem dX9_fly_111 : decode cX9_fly 111 = .ok (.iload 4, 2) := by decide +kernel
theorem dX9_fly_113 : decode cX9_fly 113 = .ok (.iconst 0, 1) := by decide +kernel
theorem dX9_fly_114 : decode cX9_fly 114 = .ok (.iastore, 1) := by decide +kernel
theorem dX9_fly_115 : decode cX9_fly 115 = .ok (.return_, 1) := by decide +kernel
theorem dX9_fly_116 : decode cX9_fly 116 = .ok (.iinc 2 1, 3) := by decide +kernel
theorem dX9_fly_119 : decode cX9_fly 119 = .ok (.goto (-117), 3) := by decide +kernel
theorem dX9_fly_122 : decode cX9_fly 122 = .ok (.return_, 1) := by decide +kernel
theorem dX9_endNight_0 : decode cX9_endNight 0 = .ok (.aload_n 0, 1) := by decide +kernel
theorem dX9_endNight_1 : decode cX9_endNight 1 = .ok (.getfield 13, 3) := by decide +kernel
theorem dX9_endNight_4 : decode cX9_endNight 4 = .ok (.bipush 62, 2) := by decide +kernel
theorem dX9_endNight_6 : decode cX9_endNight 6 = .ok (.iaload, 1) := by decide +kernel
theorem dX9_endNight_7 : decode cX9_endNight 7 = .ok (.bipush 99, 2) := by decide +kernel
theorem dX9_endNight_9 : decode cX9_endNight 9 = .ok (.if_icmp .ne 6, 3) := by decide +kernel
theorem dX9_endNight_12 : decode cX9_endNight 12 = .ok (.bipush 6, 2) := by decide +kernel
theorem dX9_endNight_14 : decode cX9_endNight 14 = .ok (.ireturn, 1) := by decide +kernel
theorem dX9_endNight_15 : decode cX9_endNight 15 = .ok (.iconst 0, 1) := by decide +kernel
theorem dX9_endNight_16 : decode cX9_endNight 16 = .ok (.istore_n 1, 1) := by decide +kernel
theorem dX9_endNight_17 : decode cX9_endNight 17 = .ok (.iload_n 1, 1) := by decide +kernel
theorem dX9_endNight_18 : decode cX9_endNight 18 = .ok (.iconst 4, 1) := by decide +kernel
theorem dX9_endNight_19 : decode cX9_endNight 19 = .ok (.if_icmp .ge 22, 3) := by decide +kernel
theorem dX9_endNight_22 : decode cX9_endNight 22 = .ok (.aload_n 0, 1) := by decide +kernel
theorem dX9_endNight_23 : decode cX9_endNight 23 = .ok (.iload_n 1, 1) := by decide +kernel
theorem dX9_endNight_24 : decode cX9_endNight 24 = .ok (.invokevirtual 88, 3) := by decide +kernel
theorem dX9_endNight_27 : decode cX9_endNight 27 = .ok (.ifCond .eq 8, 3) := by decide +kernel
theorem dX9_endNight_30 : decode cX9_endNight 30 = .ok (.aload_n 0, 1) := by decide +kernel
theorem dX9_endNight_31 : decode cX9_endNight 31 = .ok (.iload_n 1, 1) := by decide +kernel
theorem dX9_endNight_32 : decode cX9_endNight 32 = .ok (.invokevirtual 94, 3) := by decide +kernel
theorem dX9_endNight_35 : decode cX9_endNight 35 = .ok (.iinc 1 1, 3) := by decide +kernel
theorem dX9_endNight_38 : decode cX9_endNight 38 = .ok (.goto (-21), 3) := by decide +kernel
theorem dX9_endNight_41 : decode cX9_endNight 41 = .ok (.iconst 0, 1) := by decide +kernel
theorem dX9_endNight_42 : decode cX9_endNight 42 = .ok (.istore_n 1, 1) := by decide +kernel
theorem dX9_endNight_43 : decode cX9_endNight 43 = .ok (.iload_n 1, 1) := by decide +kernel
theorem dX9_endNight_44 : decode cX9_endNight 44 = .ok (.bipush 25, 2) := by decide +kernel
theorem dX9_endNight_46 : decode cX9_endNight 46 = .ok (.if_icmp .ge 38, 3) := by decide +kernel
theorem dX9_endNight_49 : decode cX9_endNight 49 = .ok (.aload_n 0, 1) := by decide +kernel
theorem dX9_endNight_50 : decode cX9_endNight 50 = .ok (.getfield 13, 3) := by decide +kernel
theorem dX9_endNight_53 : decode cX9_endNight 53 = .ok (.bipush 25, 2) := by decide +kernel
theorem dX9_endNight_55 : decode cX9_endNight 55 = .ok (.iload_n 1, 1) := by decide +kernel
theorem dX9_endNight_56 : decode cX9_endNight 56 = .ok (.iadd, 1) := by decide +kernel
theorem dX9_endNight_57 : decode cX9_endNight 57 = .ok (.dup2, 1) := by decide +kernel
theorem dX9_endNight_58 : decode cX9_endNight 58 = .ok (.iaload, 1) := by decide +kernel
theorem dX9_endNight_59 : decode cX9_endNight 59 = .ok (.aload_n 0, 1) := by decide +kernel
theorem dX9_endNight_60 : decode cX9_endNight 60 = .ok (.getfield 13, 3) := by decide +kernel
theorem dX9_endNight_63 : decode cX9_endNight 63 = .ok (.bipush 25, 2) := by decide +kernel
theorem dX9_endNight_65 : decode cX9_endNight 65 = .ok (.iload_n 1, 1) := by decide +kernel
theorem dX9_endNight_66 : decode cX9_endNight 66 = .ok (.iadd, 1) := by decide +kernel
theorem dX9_endNight_67 : decode cX9_endNight 67 = .ok (.iaload, 1) := by decide +kernel
theorem dX9_endNight_68 : decode cX9_endNight 68 = .ok (.ifCond .le 7, 3) := by decide +kernel
theorem dX9_endNight_71 : decode cX9_endNight 71 = .ok (.iconst 1, 1) := by decide +kernel
theorem dX9_endNight_72 : decode cX9_endNight 72 = .ok (.goto 4, 3) := by decide +kernel
theorem dX9_endNight_75 : decode cX9_endNight 75 = .ok (.iconst 0, 1) := by decide +kernel
theorem dX9_endNight_76 : decode cX9_endNight 76 = .ok (.isub, 1) := by decide +kernel
theorem dX9_endNight_77 : decode cX9_endNight 77 = .ok (.iastore, 1) := by decide +kernel
theorem dX9_endNight_78 : decode cX9_endNight 78 = .ok (.iinc 1 1, 3) := by decide +kernel
theorem dX9_endNight_81 : decode cX9_endNight 81 = .ok (.goto (-38), 3) := by decide +kernel
theorem dX9_endNight_84 : decode cX9_endNight 84 = .ok (.aload_n 0, 1) := by decide +kernel
theorem dX9_endNight_85 : decode cX9_endNight 85 = .ok (.getfield 13, 3) := by decide +kernel
theorem dX9_endNight_88 : decode cX9_endNight 88 = .ok (.bipush 62, 2) := by decide +kernel
theorem dX9_endNight_90 : decode cX9_endNight 90 = .ok (.dup2, 1) := by decide +kernel
theorem dX9_endNight_91 : decode cX9_endNight 91 = .ok (.iaload, 1) := by decide +kernel
theorem dX9_endNight_92 : decode cX9_endNight 92 = .ok (.iconst 1, 1) := by decide +kernel
theorem dX9_endNight_93 : decode cX9_endNight 93 = .ok (.iadd, 1) := by decide +kernel
theorem dX9_endNight_94 : decode cX9_endNight 94 = .ok (.iastore, 1) := by decide +kernel
theorem dX9_endNight_95 : decode cX9_endNight 95 = .ok (.aload_n 0, 1) := by decide +kernel
theorem dX9_endNight_96 : decode cX9_endNight 96 = .ok (.dup, 1) := by decide +kernel
theorem dX9_endNight_97 : decode cX9_endNight 97 = .ok (.getfield 79, 3) := by decide +kernel
theorem dX9_endNight_100 : decode cX9_endNight 100 = .ok (.iconst 1, 1) := by decide +kernel
theorem dX9_endNight_101 : decode cX9_endNight 101 = .ok (.iadd, 1) := by decide +kernel
theorem dX9_endNight_102 : decode cX9_endNight 102 = .ok (.putfield 79, 3) := by decide +kernel
theorem dX9_endNight_105 : decode cX9_endNight 105 = .ok (.iconst 0, 1) := by decide +kernel
theorem dX9_endNight_106 : decode cX9_endNight 106 = .ok (.ireturn, 1) := by decide +kernel
theorem dX9_nextAct_0 : decode cX9_nextAct 0 = .ok (.aload_n 0, 1) := by decide +kernel
theorem dX9_nextAct_1 : decode cX9_nextAct 1 = .ok (.getfield 19, 3) := by decide +kernel
theorem dX9_nextAct_4 : decode cX9_nextAct 4 = .ok (.aload_n 0, 1) := by decide +kernel
theorem dX9_nextAct_5 : decode cX9_nextAct 5 = .ok (.getfield 98, 3) := by decide +kernel
theorem dX9_nextAct_8 : decode cX9_nextAct 8 = .ok (.iaload, 1) := by decide +kernel
theorem dX9_nextAct_9 : decode cX9_nextAct 9 = .ok (.istore_n 1, 1) := by decide +kernel
theorem dX9_nextAct_10 : decode cX9_nextAct 10 = .ok (.iload_n 1, 1) := by decide +kernel
theorem dX9_nextAct_11 : decode cX9_nextAct 11 = .ok (.bipush 46, 2) := by decide +kernel
theorem dX9_nextAct_13 : decode cX9_nextAct 13 = .ok (.if_icmp .ne 18, 3) := by decide +kernel
theorem dX9_nextAct_16 : decode cX9_nextAct 16 = .ok (.aload_n 0, 1) := by decide +kernel
theorem dX9_nextAct_17 : decode cX9_nextAct 17 = .ok (.dup, 1) := by decide +kernel
theorem dX9_nextAct_18 : decode cX9_nextAct 18 = .ok (.getfield 98, 3) := by decide +kernel
theorem dX9_nextAct_21 : decode cX9_nextAct 21 = .ok (.iconst 1, 1) := by decide +kernel
theorem dX9_nextAct_22 : decode cX9_nextAct 22 = .ok (.iadd, 1) := by decide +kernel
theorem dX9_nextAct_23 : decode cX9_nextAct 23 = .ok (.putfield 98, 3) := by decide +kernel
theorem dX9_nextAct_26 : decode cX9_nextAct 26 = .ok (.aload_n 0, 1) := by decide +kernel
theorem dX9_nextAct_27 : decode cX9_nextAct 27 = .ok (.invokevirtual 101, 3) := by decide +kernel
theorem dX9_nextAct_30 : decode cX9_nextAct 30 = .ok (.ireturn, 1) := by decide +kernel
theorem dX9_nextAct_31 : decode cX9_nextAct 31 = .ok (.iload_n 1, 1) := by decide +kernel
theorem dX9_nextAct_32 : decode cX9_nextAct 32 = .ok (.bipush 37, 2) := by decide +kernel
theorem dX9_nextAct_34 : decode cX9_nextAct 34 = .ok (.if_icmp .ne 46, 3) := by decide +kernel
theorem dX9_nextAct_37 : decode cX9_nextAct 37 = .ok (.aload_n 0, 1) := by decide +kernel
theorem dX9_nextAct_38 : decode cX9_nextAct 38 = .ok (.dup, 1) := by decide +kernel
theorem dX9_nextAct_39 : decode cX9_nextAct 39 = .ok (.getfield 98, 3) := by decide +kernel
theorem dX9_nextAct_42 : decode cX9_nextAct 42 = .ok (.iconst 3, 1) := by decide +kernel
theorem dX9_nextAct_43 : decode cX9_nextAct 43 = .ok (.iadd, 1) := by decide +kernel
theorem dX9_nextAct_44 : decode cX9_nextAct 44 = .ok (.putfield 98, 3) := by decide +kernel
theorem dX9_nextAct_47 : decode cX9_nextAct 47 = .ok (.aload_n 0, 1) := by decide +kernel
theorem dX9_nextAct_48 : decode cX9_nextAct 48 = .ok (.aload_n 0, 1) := by decide +kernel
theorem dX9_nextAct_49 : decode cX9_nextAct 49 = .ok (.getfield 19, 3) := by decide +kernel
theorem dX9_nextAct_52 : decode cX9_nextAct 52 = .ok (.aload_n 0, 1) := by decide +kernel
theorem dX9_nextAct_53 : decode cX9_nextAct 53 = .ok (.getfield 98, 3) := by decide +kernel
theorem dX9_nextAct_56 : decode cX9_nextAct 56 = .ok (.iconst 2, 1) := by decide +kernel
theorem dX9_nextAct_57 : decode cX9_nextAct 57 = .ok (.isub, 1) := by decide +kernel
theorem dX9_nextAct_58 : decode cX9_nextAct 58 = .ok (.iaload, 1) := by decide +kernel
theorem dX9_nextAct_59 : decode cX9_nextAct 59 = .ok (.bipush 97, 2) := by decide +kernel
theorem dX9_nextAct_61 : decode cX9_nextAct 61 = .ok (.isub, 1) := by decide +kernel
theorem dX9_nextAct_62 : decode cX9_nextAct 62 = .ok (.aload_n 0, 1) := by decide +kernel
theorem dX9_nextAct_63 : decode cX9_nextAct 63 = .ok (.getfield 19, 3) := by decide +kernel
theorem dX9_nextAct_66 : decode cX9_nextAct 66 = .ok (.aload_n 0, 1) := by decide +kernel
theorem dX9_nextAct_67 : decode cX9_nextAct 67 = .ok (.getfield 98, 3) := by decide +kernel
theorem dX9_nextAct_70 : decode cX9_nextAct 70 = .ok (.iconst 1, 1) := by decide +kernel
theorem dX9_nextAct_71 : decode cX9_nextAct 71 = .ok (.isub, 1) := by decide +kernel
theorem dX9_nextAct_72 : decode cX9_nextAct 72 = .ok (.iaload, 1) := by decide +kernel
theorem dX9_nextAct_73 : decode cX9_nextAct 73 = .ok (.bipush 48, 2) := by decide +kernel
theorem dX9_nextAct_75 : decode cX9_nextAct 75 = .ok (.isub, 1) := by decide +kernel
theorem dX9_nextAct_76 : decode cX9_nextAct 76 = .ok (.invokevirtual 104, 3) := by decide +kernel
theorem dX9_nextAct_79 : decode cX9_nextAct 79 = .ok (.ireturn, 1) := by decide +kernel
theorem dX9_nextAct_80 : decode cX9_nextAct 80 = .ok (.aload_n 0, 1) := by decide +kernel
theorem dX9_nextAct_81 : decode cX9_nextAct 81 = .ok (.dup, 1) := by decide +kernel
theorem dX9_nextAct_82 : decode cX9_nextAct 82 = .ok (.getfield 98, 3) := by decide +kernel
theorem dX9_nextAct_85 : decode cX9_nextAct 85 = .ok (.iconst 2, 1) := by decide +kernel
theorem dX9_nextAct_86 : decode cX9_nextAct 86 = .ok (.iadd, 1) := by decide +kernel
theorem dX9_nextAct_87 : decode cX9_nextAct 87 = .ok (.putfield 98, 3) := by decide +kernel
theorem dX9_nextAct_90 : decode cX9_nextAct 90 = .ok (.aload_n 0, 1) := by decide +kernel
theorem dX9_nextAct_91 : decode cX9_nextAct 91 = .ok (.getfield 19, 3) := by decide +kernel
theorem dX9_nextAct_94 : decode cX9_nextAct 94 = .ok (.aload_n 0, 1) := by decide +kernel
theorem dX9_nextAct_95 : decode cX9_nextAct 95 = .ok (.getfield 98, 3) := by decide +kernel
theorem dX9_nextAct_98 : decode cX9_nextAct 98 = .ok (.iconst 1, 1) := by decide +kernel
theorem dX9_nextAct_99 : decode cX9_nextAct 99 = .ok (.isub, 1) := by decide +kernel
theorem dX9_nextAct_100 : decode cX9_nextAct 100 = .ok (.iaload, 1) := by decide +kernel
theorem dX9_nextAct_101 : decode cX9_nextAct 101 = .ok (.istore_n 2, 1) := by decide +kernel
theorem dX9_nextAct_102 : decode cX9_nextAct 102 = .ok (.iload_n 1, 1) := by decide +kernel
theorem dX9_nextAct_103 : decode cX9_nextAct 103 = .ok (.bipush 43, 2) := by decide +kernel
theorem dX9_nextAct_105 : decode cX9_nextAct 105 = .ok (.if_icmp .ne 14, 3) := by decide +kernel
theorem dX9_nextAct_108 : decode cX9_nextAct 108 = .ok (.aload_n 0, 1) := by decide +kernel
theorem dX9_nextAct_109 : decode cX9_nextAct 109 = .ok (.iload_n 2, 1) := by decide +kernel
theorem dX9_nextAct_110 : decode cX9_nextAct 110 = .ok (.bipush 97, 2) := by decide +kernel
theorem dX9_nextAct_112 : decode cX9_nextAct 112 = .ok (.isub, 1) := by decide +kernel
theorem dX9_nextAct_113 : decode cX9_nextAct 113 = .ok (.invokevirtual 107, 3) := by decide +kernel
theorem dX9_nextAct_116 : decode cX9_nextAct 116 = .ok (.goto 32, 3) := by decide +kernel
theorem dX9_nextAct_119 : decode cX9_nextAct 119 = .ok (.iload_n 2, 1) := by decide +kernel
theorem dX9_nextAct_120 : decode cX9_nextAct 120 = .ok (.bipush 33, 2) := by decide +kernel
theorem dX9_nextAct_122 : decode cX9_nextAct 122 = .ok (.if_icmp .ne 14, 3) := by decide +kernel
theorem dX9_nextAct_125 : decode cX9_nextAct 125 = .ok (.aload_n 0, 1) := by decide +kernel
theorem dX9_nextAct_126 : decode cX9_nextAct 126 = .ok (.iload_n 1, 1) := by decide +kernel
theorem dX9_nextAct_127 : decode cX9_nextAct 127 = .ok (.bipush 65, 2) := by decide +kernel
theorem dX9_nextAct_129 : decode cX9_nextAct 129 = .ok (.isub, 1) := by decide +kernel
theorem dX9_nextAct_130 : decode cX9_nextAct 130 = .ok (.invokevirtual 110, 3) := by decide +kernel
theorem dX9_nextAct_133 : decode cX9_nextAct 133 = .ok (.goto 15, 3) := by decide +kernel
theorem dX9_nextAct_136 : decode cX9_nextAct 136 = .ok (.aload_n 0, 1) := by decide +kernel
theorem dX9_nextAct_137 : decode cX9_nextAct 137 = .ok (.iload_n 1, 1) := by decide +kernel
theorem dX9_nextAct_138 : decode cX9_nextAct 138 = .ok (.bipush 65, 2) := by decide +kernel
theorem dX9_nextAct_140 : decode cX9_nextAct 140 = .ok (.isub, 1) := by decide +kernel
theorem dX9_nextAct_141 : decode cX9_nextAct 141 = .ok (.iload_n 2, 1) := by decide +kernel
theorem dX9_nextAct_142 : decode cX9_nextAct 142 = .ok (.invokestatic 67, 3) := by decide +kernel
theorem dX9_nextAct_145 : decode cX9_nextAct 145 = .ok (.invokevirtual 113, 3) := by decide +kernel
theorem dX9_nextAct_148 : decode cX9_nextAct 148 = .ok (.ireturn, 1) := by decide +kernel
theorem dX9_goNights_0 : decode cX9_goNights 0 = .ok (.aload_n 0, 1) := by decide +kernel
theorem dX9_goNights_1 : decode cX9_goNights 1 = .ok (.invokevirtual 116, 3) := by decide +kernel
theorem dX9_goNights_4 : decode cX9_goNights 4 = .ok (.aload_n 0, 1) := by decide +kernel
theorem dX9_goNights_5 : decode cX9_goNights 5 = .ok (.iconst 0, 1) := by decide +kernel
theorem dX9_goNights_6 : decode cX9_goNights 6 = .ok (.putfield 119, 3) := by decide +kernel
theorem dX9_goNights_9 : decode cX9_goNights 9 = .ok (.aload_n 0, 1) := by decide +kernel
theorem dX9_goNights_10 : decode cX9_goNights 10 = .ok (.iconst 0, 1) := by decide +kernel
theorem dX9_goNights_11 : decode cX9_goNights 11 = .ok (.putfield 98, 3) := by decide +kernel
theorem dX9_goNights_14 : decode cX9_goNights 14 = .ok (.aload_n 0, 1) := by decide +kernel
theorem dX9_goNights_15 : decode cX9_goNights 15 = .ok (.getfield 98, 3) := by decide +kernel
theorem dX9_goNights_18 : decode cX9_goNights 18 = .ok (.aload_n 0, 1) := by decide +kernel
theorem dX9_goNights_19 : decode cX9_goNights 19 = .ok (.getfield 63, 3) := by decide +kernel
theorem dX9_goNights_22 : decode cX9_goNights 22 = .ok (.if_icmp .ge 36, 3) := by decide +kernel
theorem dX9_goNights_25 : decode cX9_goNights 25 = .ok (.aload_n 0, 1) := by decide +kernel
theorem dX9_goNights_26 : decode cX9_goNights 26 = .ok (.aload_n 0, 1) := by decide +kernel
theorem dX9_goNights_27 : decode cX9_goNights 27 = .ok (.invokevirtual 122, 3) := by decide +kernel
theorem dX9_goNights_30 : decode cX9_goNights 30 = .ok (.putfield 125, 3) := by decide +kernel
theorem dX9_goNights_33 : decode cX9_goNights 33 = .ok (.aload_n 0, 1) := by decide +kernel
theorem dX9_goNights_34 : decode cX9_goNights 34 = .ok (.getfield 125, 3) := by decide +kernel
theorem dX9_goNights_37 : decode cX9_goNights 37 = .ok (.ifCond .le 8, 3) := by decide +kernel
theorem dX9_goNights_40 : decode cX9_goNights 40 = .ok (.aload_n 0, 1) := by decide +kernel
theorem dX9_goNights_41 : decode cX9_goNights 41 = .ok (.getfield 119, 3) := by decide +kernel
theorem dX9_goNights_44 : decode cX9_goNights 44 = .ok (.ireturn, 1) := by decide +kernel
theorem dX9_goNights_45 : decode cX9_goNights 45 = .ok (.aload_n 0, 1) := by decide +kernel
theorem dX9_goNights_46 : decode cX9_goNights 46 = .ok (.dup, 1) := by decide +kernel
theorem dX9_goNights_47 : decode cX9_goNights 47 = .ok (.getfield 119, 3) := by decide +kernel
theorem dX9_goNights_50 : decode cX9_goNights 50 = .ok (.iconst 1, 1) := by decide +kernel
theorem dX9_goNights_51 : decode cX9_goNights 51 = .ok (.iadd, 1) := by decide +kernel
theorem dX9_goNights_52 : decode cX9_goNights 52 = .ok (.putfield 119, 3) := by decide +kernel
theorem dX9_goNights_55 : decode cX9_goNights 55 = .ok (.goto (-41), 3) := by decide +kernel
theorem dX9_goNights_58 : decode cX9_goNights 58 = .ok (.bipush (-6), 2) := by decide +kernel
theorem dX9_goNights_60 : decode cX9_goNights 60 = .ok (.ireturn, 1) := by decide +kernel
theorem dX9_judge_0 : decode cX9_judge 0 = .ok (.iload_n 1, 1) := by decide +kernel
theorem dX9_judge_1 : decode cX9_judge 1 = .ok (.iconst 0, 1) := by decide +kernel
theorem dX9_judge_2 : decode cX9_judge 2 = .ok (.iconst 1, 1) := by decide +kernel
theorem dX9_judge_3 : decode cX9_judge 3 = .ok (.invokestatic 51, 3) := by decide +kernel
theorem dX9_judge_6 : decode cX9_judge 6 = .ok (.ifCond .ne 6, 3) := by decide +kernel
theorem dX9_judge_9 : decode cX9_judge 9 = .ok (.bipush (-2), 2) := by decide +kernel
theorem dX9_judge_11 : decode cX9_judge 11 = .ok (.ireturn, 1) := by decide +kernel
theorem dX9_judge_12 : decode cX9_judge 12 = .ok (.aload_n 0, 1) := by decide +kernel
theorem dX9_judge_13 : decode cX9_judge 13 = .ok (.invokevirtual 75, 3) := by decide +kernel
theorem dX9_judge_16 : decode cX9_judge 16 = .ok (.ifCond .lt 6, 3) := by decide +kernel
theorem dX9_judge_19 : decode cX9_judge 19 = .ok (.bipush (-5), 2) := by decide +kernel
theorem dX9_judge_21 : decode cX9_judge 21 = .ok (.ireturn, 1) := by decide +kernel
theorem dX9_judge_22 : decode cX9_judge 22 = .ok (.aload_n 0, 1) := by decide +kernel
theorem dX9_judge_23 : decode cX9_judge 23 = .ok (.invokevirtual 128, 3) := by decide +kernel
theorem dX9_judge_26 : decode cX9_judge 26 = .ok (.istore_n 2, 1) := by decide +kernel
theorem dX9_judge_27 : decode cX9_judge 27 = .ok (.iload_n 2, 1) := by decide +kernel
theorem dX9_judge_28 : decode cX9_judge 28 = .ok (.ifCond .lt 7, 3) := by decide +kernel
theorem dX9_judge_31 : decode cX9_judge 31 = .ok (.iload_n 1, 1) := by decide +kernel
theorem dX9_judge_32 : decode cX9_judge 32 = .ok (.ifCond .ne 7, 3) := by decide +kernel
theorem dX9_judge_35 : decode cX9_judge 35 = .ok (.iload_n 2, 1) := by decide +kernel
theorem dX9_judge_36 : decode cX9_judge 36 = .ok (.goto 7, 3) := by decide +kernel
theorem dX9_judge_39 : decode cX9_judge 39 = .ok (.aload_n 0, 1) := by decide +kernel
theorem dX9_judge_40 : decode cX9_judge 40 = .ok (.getfield 125, 3) := by decide +kernel
theorem dX9_judge_43 : decode cX9_judge 43 = .ok (.ireturn, 1) := by decide +kernel
theorem dX9_barOfNights_0 : decode cX9_barOfNights 0 = .ok (.aload_n 0, 1) := by decide +kernel
theorem dX9_barOfNights_1 : decode cX9_barOfNights 1 = .ok (.invokevirtual 75, 3) := by decide +kernel
theorem dX9_barOfNights_4 : decode cX9_barOfNights 4 = .ok (.ifCond .ge 10, 3) := by decide +kernel
theorem dX9_barOfNights_7 : decode cX9_barOfNights 7 = .ok (.aload_n 0, 1) := by decide +kernel
theorem dX9_barOfNights_8 : decode cX9_barOfNights 8 = .ok (.invokevirtual 128, 3) := by decide +kernel
theorem dX9_barOfNights_11 : decode cX9_barOfNights 11 = .ok (.ifCond .lt 8, 3) := by decide +kernel
theorem dX9_barOfNights_14 : decode cX9_barOfNights 14 = .ok (.bipush (-5), 2) := by decide +kernel
theorem dX9_barOfNights_16 : decode cX9_barOfNights 16 = .ok (.goto 4, 3) := by decide +kernel
theorem dX9_barOfNights_19 : decode cX9_barOfNights 19 = .ok (.iconst 0, 1) := by decide +kernel
theorem dX9_barOfNights_20 : decode cX9_barOfNights 20 = .ok (.ireturn, 1) := by decide +kernel
theorem dX9_done_0 : decode cX9_done 0 = .ok (.aload_n 0, 1) := by decide +kernel
theorem dX9_done_1 : decode cX9_done 1 = .ok (.invokevirtual 131, 3) := by decide +kernel
theorem dX9_done_4 : decode cX9_done 4 = .ok (.ifCond .ge 6, 3) := by decide +kernel
theorem dX9_done_7 : decode cX9_done 7 = .ok (.bipush (-5), 2) := by decide +kernel
theorem dX9_done_9 : decode cX9_done 9 = .ok (.ireturn, 1) := by decide +kernel
theorem dX9_done_10 : decode cX9_done 10 = .ok (.iconst 0, 1) := by decide +kernel
theorem dX9_done_11 : decode cX9_done 11 = .ok (.istore_n 1, 1) := by decide +kernel
theorem dX9_done_12 : decode cX9_done 12 = .ok (.iload_n 1, 1) := by decide +kernel
theorem dX9_done_13 : decode cX9_done 13 = .ok (.bipush 63, 2) := by decide +kernel
theorem dX9_done_15 : decode cX9_done 15 = .ok (.if_icmp .ge 21, 3) := by decide +kernel
theorem dX9_done_18 : decode cX9_done 18 = .ok (.aload_n 0, 1) := by decide +kernel
theorem dX9_done_19 : decode cX9_done 19 = .ok (.getfield 7, 3) := by decide +kernel
theorem dX9_done_22 : decode cX9_done 22 = .ok (.iload_n 1, 1) := by decide +kernel
theorem dX9_done_23 : decode cX9_done 23 = .ok (.aload_n 0, 1) := by decide +kernel
theorem dX9_done_24 : decode cX9_done 24 = .ok (.getfield 13, 3) := by decide +kernel
theorem dX9_done_27 : decode cX9_done 27 = .ok (.iload_n 1, 1) := by decide +kernel
theorem dX9_done_28 : decode cX9_done 28 = .ok (.iaload, 1) := by decide +kernel
theorem dX9_done_29 : decode cX9_done 29 = .ok (.iastore, 1) := by decide +kernel
theorem dX9_done_30 : decode cX9_done 30 = .ok (.iinc 1 1, 3) := by decide +kernel
theorem dX9_done_33 : decode cX9_done 33 = .ok (.goto (-21), 3) := by decide +kernel
theorem dX9_done_36 : decode cX9_done 36 = .ok (.aload_n 0, 1) := by decide +kernel
theorem dX9_done_37 : decode cX9_done 37 = .ok (.iconst 0, 1) := by decide +kernel
theorem dX9_done_38 : decode cX9_done 38 = .ok (.putfield 63, 3) := by decide +kernel
theorem dX9_done_41 : decode cX9_done 41 = .ok (.aload_n 0, 1) := by decide +kernel
theorem dX9_done_42 : decode cX9_done 42 = .ok (.getfield 119, 3) := by decide +kernel
theorem dX9_done_45 : decode cX9_done 45 = .ok (.ireturn, 1) := by decide +kernel
theorem dX9_behind_0 : decode cX9_behind 0 = .ok (.iload_n 1, 1) := by decide +kernel
theorem dX9_behind_1 : decode cX9_behind 1 = .ok (.invokestatic 59, 3) := by decide +kernel
theorem dX9_behind_4 : decode cX9_behind 4 = .ok (.ifCond .ne 5, 3) := by decide +kernel
theorem dX9_behind_7 : decode cX9_behind 7 = .ok (.iconst (-1), 1) := by decide +kernel
theorem dX9_behind_8 : decode cX9_behind 8 = .ok (.ireturn, 1) := by decide +kernel
theorem dX9_behind_9 : decode cX9_behind 9 = .ok (.iload_n 2, 1) := by decide +kernel
theorem dX9_behind_10 : decode cX9_behind 10 = .ok (.iconst 0, 1) := by decide +kernel
theorem dX9_behind_11 : decode cX9_behind 11 = .ok (.iconst 1, 1) := by decide +kernel
theorem dX9_behind_12 : decode cX9_behind 12 = .ok (.invokestatic 51, 3) := by decide +kernel
theorem dX9_behind_15 : decode cX9_behind 15 = .ok (.ifCond .ne 6, 3) := by decide +kernel
theorem dX9_behind_18 : decode cX9_behind 18 = .ok (.bipush (-2), 2) := by decide +kernel
theorem dX9_behind_20 : decode cX9_behind 20 = .ok (.ireturn, 1) := by decide +kernel
theorem dX9_behind_21 : decode cX9_behind 21 = .ok (.aload_n 0, 1) := by decide +kernel
theorem dX9_behind_22 : decode cX9_behind 22 = .ok (.invokevirtual 131, 3) := by decide +kernel
theorem dX9_behind_25 : decode cX9_behind 25 = .ok (.ifCond .ge 8, 3) := by decide +kernel
theorem dX9_behind_28 : decode cX9_behind 28 = .ok (.bipush (-5), 2) := by decide +kernel
theorem dX9_behind_30 : decode cX9_behind 30 = .ok (.goto 14, 3) := by decide +kernel
theorem dX9_behind_33 : decode cX9_behind 33 = .ok (.aload_n 0, 1) := by decide +kernel
theorem dX9_behind_34 : decode cX9_behind 34 = .ok (.getfield 13, 3) := by decide +kernel
theorem dX9_behind_37 : decode cX9_behind 37 = .ok (.bipush 25, 2) := by decide +kernel
theorem dX9_behind_39 : decode cX9_behind 39 = .ok (.iload_n 2, 1) := by decide +kernel
theorem dX9_behind_40 : decode cX9_behind 40 = .ok (.imul, 1) := by decide +kernel
theorem dX9_behind_41 : decode cX9_behind 41 = .ok (.iload_n 1, 1) := by decide +kernel
theorem dX9_behind_42 : decode cX9_behind 42 = .ok (.iadd, 1) := by decide +kernel
theorem dX9_behind_43 : decode cX9_behind 43 = .ok (.iaload, 1) := by decide +kernel
theorem dX9_behind_44 : decode cX9_behind 44 = .ok (.ireturn, 1) := by decide +kernel
theorem dX9_flies_0 : decode cX9_flies 0 = .ok (.aload_n 0, 1) := by decide +kernel
theorem dX9_flies_1 : decode cX9_flies 1 = .ok (.iload_n 1, 1) := by decide +kernel
theorem dX9_flies_2 : decode cX9_flies 2 = .ok (.invokevirtual 134, 3) := by decide +kernel
theorem dX9_flies_5 : decode cX9_flies 5 = .ok (.ifCond .ne 5, 3) := by decide +kernel
theorem dX9_flies_8 : decode cX9_flies 8 = .ok (.iconst (-1), 1) := by decide +kernel
theorem dX9_flies_9 : decode cX9_flies 9 = .ok (.ireturn, 1) := by decide +kernel
theorem dX9_flies_10 : decode cX9_flies 10 = .ok (.iload_n 2, 1) := by decide +kernel
theorem dX9_flies_11 : decode cX9_flies 11 = .ok (.iconst 0, 1) := by decide +kernel
theorem dX9_flies_12 : decode cX9_flies 12 = .ok (.iconst 1, 1) := by decide +kernel
theorem dX9_flies_13 : decode cX9_flies 13 = .ok (.invokestatic 51, 3) := by decide +kernel
theorem dX9_flies_16 : decode cX9_flies 16 = .ok (.ifCond .ne 6, 3) := by decide +kernel
theorem dX9_flies_19 : decode cX9_flies 19 = .ok (.bipush (-2), 2) := by decide +kernel
theorem dX9_flies_21 : decode cX9_flies 21 = .ok (.ireturn, 1) := by decide +kernel
theorem dX9_flies_22 : decode cX9_flies 22 = .ok (.aload_n 0, 1) := by decide +kernel
theorem dX9_flies_23 : decode cX9_flies 23 = .ok (.invokevirtual 131, 3) := by decide +kernel
theorem dX9_flies_26 : decode cX9_flies 26 = .ok (.ifCond .ge 6, 3) := by decide +kernel
theorem dX9_flies_29 : decode cX9_flies 29 = .ok (.bipush (-5), 2) := by decide +kernel
theorem dX9_flies_31 : decode cX9_flies 31 = .ok (.ireturn, 1) := by decide +kernel
theorem dX9_flies_32 : decode cX9_flies 32 = .ok (.aload_n 0, 1) := by decide +kernel
theorem dX9_flies_33 : decode cX9_flies 33 = .ok (.iload_n 1, 1) := by decide +kernel
theorem dX9_flies_34 : decode cX9_flies 34 = .ok (.invokevirtual 88, 3) := by decide +kernel
theorem dX9_flies_37 : decode cX9_flies 37 = .ok (.ifCond .eq 19, 3) := by decide +kernel
theorem dX9_flies_40 : decode cX9_flies 40 = .ok (.aload_n 0, 1) := by decide +kernel
theorem dX9_flies_41 : decode cX9_flies 41 = .ok (.getfield 13, 3) := by decide +kernel
theorem dX9_flies_44 : decode cX9_flies 44 = .ok (.bipush 50, 2) := by decide +kernel
theorem dX9_flies_46 : decode cX9_flies 46 = .ok (.iconst 4, 1) := by decide +kernel
theorem dX9_flies_47 : decode cX9_flies 47 = .ok (.iload_n 2, 1) := by decide +kernel
theorem dX9_flies_48 : decode cX9_flies 48 = .ok (.imul, 1) := by decide +kernel
theorem dX9_flies_49 : decode cX9_flies 49 = .ok (.iadd, 1) := by decide +kernel
theorem dX9_flies_50 : decode cX9_flies 50 = .ok (.iload_n 1, 1) := by decide +kernel
theorem dX9_flies_51 : decode cX9_flies 51 = .ok (.iadd, 1) := by decide +kernel
theorem dX9_flies_52 : decode cX9_flies 52 = .ok (.iaload, 1) := by decide +kernel
theorem dX9_flies_53 : decode cX9_flies 53 = .ok (.goto 5, 3) := by decide +kernel
theorem dX9_flies_56 : decode cX9_flies 56 = .ok (.bipush (-6), 2) := by decide +kernel
theorem dX9_flies_58 : decode cX9_flies 58 = .ok (.ireturn, 1) := by decide +kernel
theorem dX9_countOf_0 : decode cX9_countOf 0 = .ok (.iconst 0, 1) := by decide +kernel
theorem dX9_countOf_1 : decode cX9_countOf 1 = .ok (.istore_n 2, 1) := by decide +kernel
theorem dX9_countOf_2 : decode cX9_countOf 2 = .ok (.iconst 0, 1) := by decide +kernel
theorem dX9_countOf_3 : decode cX9_countOf 3 = .ok (.istore_n 3, 1) := by decide +kernel
theorem dX9_countOf_4 : decode cX9_countOf 4 = .ok (.iload_n 3, 1) := by decide +kernel
theorem dX9_countOf_5 : decode cX9_countOf 5 = .ok (.bipush 25, 2) := by decide +kernel
theorem dX9_countOf_7 : decode cX9_countOf 7 = .ok (.if_icmp .ge 27, 3) := by decide +kernel
theorem dX9_countOf_10 : decode cX9_countOf 10 = .ok (.iload_n 2, 1) := by decide +kernel
theorem dX9_countOf_11 : decode cX9_countOf 11 = .ok (.aload_n 0, 1) := by decide +kernel
theorem dX9_countOf_12 : decode cX9_countOf 12 = .ok (.getfield 13, 3) := by decide +kernel
theorem dX9_countOf_15 : decode cX9_countOf 15 = .ok (.iload_n 3, 1) := by decide +kernel
theorem dX9_countOf_16 : decode cX9_countOf 16 = .ok (.iaload, 1) := by decide +kernel
theorem dX9_countOf_17 : decode cX9_countOf 17 = .ok (.iload_n 1, 1) := by decide +kernel
theorem dX9_countOf_18 : decode cX9_countOf 18 = .ok (.if_icmp .ne 7, 3) := by decide +kernel
theorem dX9_countOf_21 : decode cX9_countOf 21 = .ok (.iconst 1, 1) := by decide +kernel
theorem dX9_countOf_22 : decode cX9_countOf 22 = .ok (.goto 4, 3) := by decide +kernel
theorem dX9_countOf_25 : decode cX9_countOf 25 = .ok (.iconst 0, 1) := by decide +kernel
theorem dX9_countOf_26 : decode cX9_countOf 26 = .ok (.iadd, 1) := by decide +kernel
theorem dX9_countOf_27 : decode cX9_countOf 27 = .ok (.istore_n 2, 1) := by decide +kernel
theorem dX9_countOf_28 : decode cX9_countOf 28 = .ok (.iinc 3 1, 3) := by decide +kernel
theorem dX9_countOf_31 : decode cX9_countOf 31 = .ok (.goto (-27), 3) := by decide +kernel
theorem dX9_countOf_34 : decode cX9_countOf 34 = .ok (.iload_n 2, 1) := by decide +kernel
theorem dX9_countOf_35 : decode cX9_countOf 35 = .ok (.ireturn, 1) := by decide +kernel
theorem dX9_then_0 : decode cX9_then 0 = .ok (.iload_n 1, 1) := by decide +kernel
theorem dX9_then_1 : decode cX9_then 1 = .ok (.iconst 0, 1) := by decide +kernel
theorem dX9_then_2 : decode cX9_then 2 = .ok (.iconst 4, 1) := by decide +kernel
theorem dX9_then_3 : decode cX9_then 3 = .ok (.invokestatic 51, 3) := by decide +kernel
theorem dX9_then_6 : decode cX9_then 6 = .ok (.ifCond .ne 6, 3) := by decide +kernel
theorem dX9_then_9 : decode cX9_then 9 = .ok (.bipush (-2), 2) := by decide +kernel
theorem dX9_then_11 : decode cX9_then 11 = .ok (.ireturn, 1) := by decide +kernel
theorem dX9_then_12 : decode cX9_then 12 = .ok (.aload_n 0, 1) := by decide +kernel
theorem dX9_then_13 : decode cX9_then 13 = .ok (.invokevirtual 131, 3) := by decide +kernel
theorem dX9_then_16 : decode cX9_then 16 = .ok (.ifCond .ge 6, 3) := by decide +kernel
theorem dX9_then_19 : decode cX9_then 19 = .ok (.bipush (-5), 2) := by decide +kernel
theorem dX9_then_21 : decode cX9_then 21 = .ok (.ireturn, 1) := by decide +kernel
theorem dX9_then_22 : decode cX9_then 22 = .ok (.iload_n 1, 1) := by decide +kernel
theorem dX9_then_23 : decode cX9_then 23 = .ok (.tableswitch 72 0 3 #[29, 35, 59, 67], 29) := by decide +kernel
theorem dX9_then_52 : decode cX9_then 52 = .ok (.aload_n 0, 1) := by decide +kernel
theorem dX9_then_53 : decode cX9_then 53 = .ok (.iconst 0, 1) := by decide +kernel
theorem dX9_then_54 : decode cX9_then 54 = .ok (.invokevirtual 137, 3) := by decide +kernel
theorem dX9_then_57 : decode cX9_then 57 = .ok (.ireturn, 1) := by decide +kernel
theorem dX9_then_58 : decode cX9_then 58 = .ok (.aload_n 0, 1) := by decide +kernel
theorem dX9_then_59 : decode cX9_then 59 = .ok (.getfield 13, 3) := by decide +kernel
theorem dX9_then_62 : decode cX9_then 62 = .ok (.bipush 58, 2) := by decide +kernel
theorem dX9_then_64 : decode cX9_then 64 = .ok (.iaload, 1) := by decide +kernel
theorem dX9_then_65 : decode cX9_then 65 = .ok (.aload_n 0, 1) := by decide +kernel
theorem dX9_then_66 : decode cX9_then 66 = .ok (.getfield 13, 3) := by decide +kernel
theorem dX9_then_69 : decode cX9_then 69 = .ok (.bipush 59, 2) := by decide +kernel
theorem dX9_then_71 : decode cX9_then 71 = .ok (.iaload, 1) := by decide +kernel
theorem dX9_then_72 : decode cX9_then 72 = .ok (.iadd, 1) := by decide +kernel
theorem dX9_then_73 : decode cX9_then 73 = .ok (.aload_n 0, 1) := by decide +kernel
theorem dX9_then_74 : decode cX9_then 74 = .ok (.getfield 13, 3) := by decide +kernel
theorem dX9_then_77 : decode cX9_then 77 = .ok (.bipush 60, 2) := by decide +kernel
theorem dX9_then_79 : decode cX9_then 79 = .ok (.iaload, 1) := by decide +kernel
theorem dX9_then_80 : decode cX9_then 80 = .ok (.iadd, 1) := by decide +kernel
theorem dX9_then_81 : decode cX9_then 81 = .ok (.ireturn, 1) := by decide +kernel
theorem dX9_then_82 : decode cX9_then 82 = .ok (.aload_n 0, 1) := by decide +kernel
theorem dX9_then_83 : decode cX9_then 83 = .ok (.getfield 13, 3) := by decide +kernel
theorem dX9_then_86 : decode cX9_then 86 = .ok (.bipush 62, 2) := by decide +kernel
theorem dX9_then_88 : decode cX9_then 88 = .ok (.iaload, 1) := by decide +kernel
theorem dX9_then_89 : decode cX9_then 89 = .ok (.ireturn, 1) := by decide +kernel
theorem dX9_then_90 : decode cX9_then 90 = .ok (.aload_n 0, 1) := by decide +kernel
theorem dX9_then_91 : decode cX9_then 91 = .ok (.getfield 82, 3) := by decide +kernel
theorem dX9_then_94 : decode cX9_then 94 = .ok (.ireturn, 1) := by decide +kernel
theorem dX9_then_95 : decode cX9_then 95 = .ok (.aload_n 0, 1) := by decide +kernel
theorem dX9_then_96 : decode cX9_then 96 = .ok (.getfield 85, 3) := by decide +kernel
theorem dX9_then_99 : decode cX9_then 99 = .ok (.ireturn, 1) := by decide +kernel
theorem dX9_layRoads_0 : decode cX9_layRoads 0 = .ok (.iconst 0, 1) := by decide +kernel
theorem dX9_layRoads_1 : decode cX9_layRoads 1 = .ok (.istore_n 2, 1) := by decide +kernel
theorem dX9_layRoads_2 : decode cX9_layRoads 2 = .ok (.iload_n 2, 1) := by decide +kernel
theorem dX9_layRoads_3 : decode cX9_layRoads 3 = .ok (.bipush 25, 2) := by decide +kernel
theorem dX9_layRoads_5 : decode cX9_layRoads 5 = .ok (.if_icmp .ge 50, 3) := by decide +kernel
theorem dX9_layRoads_8 : decode cX9_layRoads 8 = .ok (.aload_n 0, 1) := by decide +kernel
theorem dX9_layRoads_9 : decode cX9_layRoads 9 = .ok (.getfield 22, 3) := by decide +kernel
theorem dX9_layRoads_12 : decode cX9_layRoads 12 = .ok (.iload_n 2, 1) := by decide +kernel
theorem dX9_layRoads_13 : decode cX9_layRoads 13 = .ok (.iload_n 2, 1) := by decide +kernel
theorem dX9_layRoads_14 : decode cX9_layRoads 14 = .ok (.iload_n 1, 1) := by decide +kernel
theorem dX9_layRoads_15 : decode cX9_layRoads 15 = .ok (.if_icmp .ne 31, 3) := by decide +kernel
theorem dX9_layRoads_18 : decode cX9_layRoads 18 = .ok (.aload_n 0, 1) := by decide +kernel
theorem dX9_layRoads_19 : decode cX9_layRoads 19 = .ok (.getfield 7, 3) := by decide +kernel
theorem dX9_layRoads_22 : decode cX9_layRoads 22 = .ok (.iload_n 2, 1) := by decide +kernel
theorem dX9_layRoads_23 : decode cX9_layRoads 23 = .ok (.iaload, 1) := by decide +kernel
theorem dX9_layRoads_24 : decode cX9_layRoads 24 = .ok (.iconst 3, 1) := by decide +kernel
theorem dX9_layRoads_25 : decode cX9_layRoads 25 = .ok (.if_icmp .eq 21, 3) := by decide +kernel
theorem dX9_layRoads_28 : decode cX9_layRoads 28 = .ok (.aload_n 0, 1) := by decide +kernel
theorem dX9_layRoads_29 : decode cX9_layRoads 29 = .ok (.getfield 7, 3) := by decide +kernel
theorem dX9_layRoads_32 : decode cX9_layRoads 32 = .ok (.iload_n 2, 1) := by decide +kernel
theorem dX9_layRoads_33 : decode cX9_layRoads 33 = .ok (.iaload, 1) := by decide +kernel
theorem dX9_layRoads_34 : decode cX9_layRoads 34 = .ok (.ifCond .ne 8, 3) := by decide +kernel
theorem dX9_layRoads_37 : decode cX9_layRoads 37 = .ok (.bipush 100, 2) := by decide +kernel
theorem dX9_layRoads_39 : decode cX9_layRoads 39 = .ok (.goto 9, 3) := by decide +kernel
theorem dX9_layRoads_42 : decode cX9_layRoads 42 = .ok (.iconst 0, 1) := by decide +kernel
theorem dX9_layRoads_43 : decode cX9_layRoads 43 = .ok (.goto 5, 3) := by decide +kernel
theorem dX9_layRoads_46 : decode cX9_layRoads 46 = .ok (.ldc 140, 2) := by decide +kernel
theorem dX9_layRoads_48 : decode cX9_layRoads 48 = .ok (.iastore, 1) := by decide +kernel
theorem dX9_layRoads_49 : decode cX9_layRoads 49 = .ok (.iinc 2 1, 3) := by decide +kernel
theorem dX9_layRoads_52 : decode cX9_layRoads 52 = .ok (.goto (-50), 3) := by decide +kernel
theorem dX9_layRoads_55 : decode cX9_layRoads 55 = .ok (.iconst 1, 1) := by decide +kernel
theorem dX9_layRoads_56 : decode cX9_layRoads 56 = .ok (.istore_n 2, 1) := by decide +kernel
theorem dX9_layRoads_57 : decode cX9_layRoads 57 = .ok (.iload_n 2, 1) := by decide +kernel
theorem dX9_layRoads_58 : decode cX9_layRoads 58 = .ok (.ifCond .eq 123, 3) := by decide +kernel
theorem dX9_layRoads_61 : decode cX9_layRoads 61 = .ok (.iconst 0, 1) := by decide +kernel
theorem dX9_layRoads_62 : decode cX9_layRoads 62 = .ok (.istore_n 2, 1) := by decide +kernel
theorem dX9_layRoads_63 : decode cX9_layRoads 63 = .ok (.iconst 0, 1) := by decide +kernel
theorem dX9_layRoads_64 : decode cX9_layRoads 64 = .ok (.istore_n 3, 1) := by decide +kernel
theorem dX9_layRoads_65 : decode cX9_layRoads 65 = .ok (.iload_n 3, 1) := by decide +kernel
theorem dX9_layRoads_66 : decode cX9_layRoads 66 = .ok (.bipush 25, 2) := by decide +kernel
theorem dX9_layRoads_68 : decode cX9_layRoads 68 = .ok (.if_icmp .ge 110, 3) := by decide +kernel
theorem dX9_layRoads_71 : decode cX9_layRoads 71 = .ok (.iconst 0, 1) := by decide +kernel
theorem dX9_layRoads_72 : decode cX9_layRoads 72 = .ok (.istore 4, 2) := by decide +kernel
theorem dX9_layRoads_74 : decode cX9_layRoads 74 = .ok (.iload 4, 2) := by decide +kernel
theorem dX9_layRoads_76 : decode cX9_layRoads 76 = .ok (.iconst 4, 1) := by decide +kernel
theorem dX9_layRoads_77 : decode cX9_layRoads 77 = .ok (.if_icmp .ge 95, 3) := by decide +kernel
theorem dX9_layRoads_80 : decode cX9_layRoads 80 = .ok (.iload_n 3, 1) := by decide +kernel
theorem dX9_layRoads_81 : decode cX9_layRoads 81 = .ok (.iload 4, 2) := by decide +kernel
theorem dX9_layRoads_83 : decode cX9_layRoads 83 = .ok (.invokestatic 91, 3) := by decide +kernel
theorem dX9_layRoads_86 : decode cX9_layRoads 86 = .ok (.istore 5, 2) := by decide +kernel
theorem dX9_layRoads_88 : decode cX9_layRoads 88 = .ok (.iload 5, 2) := by decide +kernel
theorem dX9_layRoads_90 : decode cX9_layRoads 90 = .ok (.ifCond .lt 14, 3) := by decide +kernel
theorem dX9_layRoads_93 : decode cX9_layRoads 93 = .ok (.aload_n 0, 1) := by decide +kernel
theorem dX9_layRoads_94 : decode cX9_layRoads 94 = .ok (.getfield 7, 3) := by decide +kernel
theorem dX9_layRoads_97 : decode cX9_layRoads 97 = .ok (.iload 5, 2) := by decide +kernel
theorem dX9_layRoads_99 : decode cX9_layRoads 99 = .ok (.iaload, 1) := by decide +kernel
theorem dX9_layRoads_100 : decode cX9_layRoads 100 = .ok (.iconst 3, 1) := by decide +kernel
theorem dX9_layRoads_101 : decode cX9_layRoads 101 = .ok (.if_icmp .ne 8, 3) := by decide +kernel
theorem dX9_layRoads_104 : decode cX9_layRoads 104 = .ok (.ldc 140, 2) := by decide +kernel
theorem dX9_layRoads_106 : decode cX9_layRoads 106 = .ok (.goto 28, 3) := by decide +kernel
theorem dX9_layRoads_109 : decode cX9_layRoads 109 = .ok (.aload_n 0, 1) := by decide +kernel
theorem dX9_layRoads_110 : decode cX9_layRoads 110 = .ok (.getfield 22, 3) := by decide +kernel
theorem dX9_layRoads_113 : decode cX9_layRoads 113 = .ok (.iload_n 3, 1) := by decide +kernel
theorem dX9_layRoads_114 : decode cX9_layRoads 114 = .ok (.iaload, 1) := by decide +kernel
theorem dX9_layRoads_115 : decode cX9_layRoads 115 = .ok (.iconst 1, 1) := by decide +kernel
theorem dX9_layRoads_116 : decode cX9_layRoads 116 = .ok (.iadd, 1) := by decide +kernel
theorem dX9_layRoads_117 : decode cX9_layRoads 117 = .ok (.aload_n 0, 1) := by decide +kernel
theorem dX9_layRoads_118 : decode cX9_layRoads 118 = .ok (.getfield 7, 3) := by decide +kernel
theorem dX9_layRoads_121 : decode cX9_layRoads 121 = .ok (.iload 5, 2) := by decide +kernel
theorem dX9_layRoads_123 : decode cX9_layRoads 123 = .ok (.iaload, 1) := by decide +kernel
theorem dX9_layRoads_124 : decode cX9_layRoads 124 = .ok (.ifCond .ne 8, 3) := by decide +kernel
theorem dX9_layRoads_127 : decode cX9_layRoads 127 = .ok (.bipush 100, 2) := by decide +kernel
theorem dX9_layRoads_129 : decode cX9_layRoads 129 = .ok (.goto 4, 3) := by decide +kernel
theorem dX9_layRoads_132 : decode cX9_layRoads 132 = .ok (.iconst 0, 1) := by decide +kernel
theorem dX9_layRoads_133 : decode cX9_layRoads 133 = .ok (.iadd, 1) := by decide +kernel
theorem dX9_layRoads_134 : decode cX9_layRoads 134 = .ok (.istore 6, 2) := by decide +kernel
theorem dX9_layRoads_136 : decode cX9_layRoads 136 = .ok (.iload 6, 2) := by decide +kernel
theorem dX9_layRoads_138 : decode cX9_layRoads 138 = .ok (.ldc 140, 2) := by decide +kernel
theorem dX9_layRoads_140 : decode cX9_layRoads 140 = .ok (.if_icmp .ge 26, 3) := by decide +kernel
theorem dX9_layRoads_143 : decode cX9_layRoads 143 = .ok (.iload 6, 2) := by decide +kernel
theorem dX9_layRoads_145 : decode cX9_layRoads 145 = .ok (.aload_n 0, 1) := by decide +kernel
theorem dX9_layRoads_146 : decode cX9_layRoads 146 = .ok (.getfield 22, 3) := by decide +kernel
theorem dX9_layRoads_149 : decode cX9_layRoads 149 = .ok (.iload 5, 2) := by decide +kernel
theorem dX9_layRoads_151 : decode cX9_layRoads 151 = .ok (.iaload, 1) := by decide +kernel
theorem dX9_layRoads_152 : decode cX9_layRoads 152 = .ok (.if_icmp .ge 14, 3) := by decide +kernel
theorem dX9_layRoads_155 : decode cX9_layRoads 155 = .ok (.aload_n 0, 1) := by decide +kernel
theorem dX9_layRoads_156 : decode cX9_layRoads 156 = .ok (.getfield 22, 3) := by decide +kernel
theorem dX9_layRoads_159 : decode cX9_layRoads 159 = .ok (.iload 5, 2) := by decide +kernel
theorem dX9_layRoads_161 : decode cX9_layRoads 161 = .ok (.iload 6, 2) := by decide +kernel
theorem dX9_layRoads_163 : decode cX9_layRoads 163 = .ok (.iastore, 1) := by decide +kernel
theorem dX9_layRoads_164 : decode cX9_layRoads 164 = .ok (.iconst 1, 1) := by decide +kernel
theorem dX9_layRoads_165 : decode cX9_layRoads 165 = .ok (.istore_n 2, 1) := by decide +kernel
theorem dX9_layRoads_166 : decode cX9_layRoads 166 = .ok (.iinc 4 1, 3) := by decide +kernel
theorem dX9_layRoads_169 : decode cX9_layRoads 169 = .ok (.goto (-95), 3) := by decide +kernel
theorem dX9_layRoads_172 : decode cX9_layRoads 172 = .ok (.iinc 3 1, 3) := by decide +kernel
theorem dX9_layRoads_175 : decode cX9_layRoads 175 = .ok (.goto (-110), 3) := by decide +kernel
theorem dX9_layRoads_178 : decode cX9_layRoads 178 = .ok (.goto (-121), 3) := by decide +kernel
theorem dX9_layRoads_181 : decode cX9_layRoads 181 = .ok (.return_, 1) := by decide +kernel
theorem dX9_road_0 : decode cX9_road 0 = .ok (.iload_n 1, 1) := by decide +kernel
theorem dX9_road_1 : decode cX9_road 1 = .ok (.invokestatic 59, 3) := by decide +kernel
theorem dX9_road_4 : decode cX9_road 4 = .ok (.ifCond .eq 10, 3) := by decide +kernel
theorem dX9_road_7 : decode cX9_road 7 = .ok (.iload_n 2, 1) := by decide +kernel
theorem dX9_road_8 : decode cX9_road 8 = .ok (.invokestatic 59, 3) := by decide +kernel
theorem dX9_road_11 : decode cX9_road 11 = .ok (.ifCond .ne 5, 3) := by decide +kernel
theorem dX9_road_14 : decode cX9_road 14 = .ok (.iconst (-1), 1) := by decide +kernel
theorem dX9_road_15 : decode cX9_road 15 = .ok (.ireturn, 1) := by decide +kernel
theorem dX9_road_16 : decode cX9_road 16 = .ok (.aload_n 0, 1) := by decide +kernel
theorem dX9_road_17 : decode cX9_road 17 = .ok (.iload_n 1, 1) := by decide +kernel
theorem dX9_road_18 : decode cX9_road 18 = .ok (.invokevirtual 141, 3) := by decide +kernel
theorem dX9_road_21 : decode cX9_road 21 = .ok (.aload_n 0, 1) := by decide +kernel
theorem dX9_road_22 : decode cX9_road 22 = .ok (.getfield 22, 3) := by decide +kernel
theorem dX9_road_25 : decode cX9_road 25 = .ok (.iload_n 2, 1) := by decide +kernel
theorem dX9_road_26 : decode cX9_road 26 = .ok (.iaload, 1) := by decide +kernel
theorem dX9_road_27 : decode cX9_road 27 = .ok (.bipush 100, 2) := by decide +kernel
theorem dX9_road_29 : decode cX9_road 29 = .ok (.if_icmp .ge 12, 3) := by decide +kernel
theorem dX9_road_32 : decode cX9_road 32 = .ok (.aload_n 0, 1) := by decide +kernel
theorem dX9_road_33 : decode cX9_road 33 = .ok (.getfield 22, 3) := by decide +kernel
theorem dX9_road_36 : decode cX9_road 36 = .ok (.iload_n 2, 1) := by decide +kernel
theorem dX9_road_37 : decode cX9_road 37 = .ok (.iaload, 1) := by decide +kernel
theorem dX9_road_38 : decode cX9_road 38 = .ok (.goto 5, 3) := by decide +kernel
theorem dX9_road_41 : decode cX9_road 41 = .ok (.bipush (-6), 2) := by decide +kernel
theorem dX9_road_43 : decode cX9_road 43 = .ok (.ireturn, 1) := by decide +kernel
theorem dX9_whole_0 : decode cX9_whole 0 = .ok (.iload_n 1, 1) := by decide +kernel
theorem dX9_whole_1 : decode cX9_whole 1 = .ok (.invokestatic 59, 3) := by decide +kernel
theorem dX9_whole_4 : decode cX9_whole 4 = .ok (.ifCond .eq 10, 3) := by decide +kernel
theorem dX9_whole_7 : decode cX9_whole 7 = .ok (.iload_n 2, 1) := by decide +kernel
theorem dX9_whole_8 : decode cX9_whole 8 = .ok (.invokestatic 59, 3) := by decide +kernel
theorem dX9_whole_11 : decode cX9_whole 11 = .ok (.ifCond .ne 5, 3) := by decide +kernel
theorem dX9_whole_14 : decode cX9_whole 14 = .ok (.iconst (-1), 1) := by decide +kernel
theorem dX9_whole_15 : decode cX9_whole 15 = .ok (.ireturn, 1) := by decide +kernel
theorem dX9_whole_16 : decode cX9_whole 16 = .ok (.iload_n 3, 1) := by decide +kernel
theorem dX9_whole_17 : decode cX9_whole 17 = .ok (.iconst 0, 1) := by decide +kernel
theorem dX9_whole_18 : decode cX9_whole 18 = .ok (.iconst 1, 1) := by decide +kernel
theorem dX9_whole_19 : decode cX9_whole 19 = .ok (.invokestatic 51, 3) := by decide +kernel
theorem dX9_whole_22 : decode cX9_whole 22 = .ok (.ifCond .ne 6, 3) := by decide +kernel
theorem dX9_whole_25 : decode cX9_whole 25 = .ok (.bipush (-2), 2) := by decide +kernel
theorem dX9_whole_27 : decode cX9_whole 27 = .ok (.ireturn, 1) := by decide +kernel
theorem dX9_whole_28 : decode cX9_whole 28 = .ok (.aload_n 0, 1) := by decide +kernel
theorem dX9_whole_29 : decode cX9_whole 29 = .ok (.iload_n 1, 1) := by decide +kernel
theorem dX9_whole_30 : decode cX9_whole 30 = .ok (.invokevirtual 141, 3) := by decide +kernel
theorem dX9_whole_33 : decode cX9_whole 33 = .ok (.aload_n 0, 1) := by decide +kernel
theorem dX9_whole_34 : decode cX9_whole 34 = .ok (.getfield 22, 3) := by decide +kernel
theorem dX9_whole_37 : decode cX9_whole 37 = .ok (.iload_n 2, 1) := by decide +kernel
theorem dX9_whole_38 : decode cX9_whole 38 = .ok (.iaload, 1) := by decide +kernel
theorem dX9_whole_39 : decode cX9_whole 39 = .ok (.ldc 140, 2) := by decide +kernel
theorem dX9_whole_41 : decode cX9_whole 41 = .ok (.if_icmp .lt 8, 3) := by decide +kernel
theorem dX9_whole_44 : decode cX9_whole 44 = .ok (.bipush (-6), 2) := by decide +kernel
theorem dX9_whole_46 : decode cX9_whole 46 = .ok (.goto 28, 3) := by decide +kernel
theorem dX9_whole_49 : decode cX9_whole 49 = .ok (.iload_n 3, 1) := by decide +kernel
theorem dX9_whole_50 : decode cX9_whole 50 = .ok (.ifCond .ne 15, 3) := by decide +kernel
theorem dX9_whole_53 : decode cX9_whole 53 = .ok (.aload_n 0, 1) := by decide +kernel
theorem dX9_whole_54 : decode cX9_whole 54 = .ok (.getfield 22, 3) := by decide +kernel
theorem dX9_whole_57 : decode cX9_whole 57 = .ok (.iload_n 2, 1) := by decide +kernel
theorem dX9_whole_58 : decode cX9_whole 58 = .ok (.iaload, 1) := by decide +kernel
theorem dX9_whole_59 : decode cX9_whole 59 = .ok (.bipush 100, 2) := by decide +kernel
theorem dX9_whole_61 : decode cX9_whole 61 = .ok (.idiv, 1) := by decide +kernel
theorem dX9_whole_62 : decode cX9_whole 62 = .ok (.goto 12, 3) := by decide +kernel
theorem dX9_whole_65 : decode cX9_whole 65 = .ok (.aload_n 0, 1) := by decide +kernel
theorem dX9_whole_66 : decode cX9_whole 66 = .ok (.getfield 22, 3) := by decide +kernel
theorem dX9_whole_69 : decode cX9_whole 69 = .ok (.iload_n 2, 1) := by decide +kernel
theorem dX9_whole_70 : decode cX9_whole 70 = .ok (.iaload, 1) := by decide +kernel
theorem dX9_whole_71 : decode cX9_whole 71 = .ok (.bipush 100, 2) := by decide +kernel
theorem dX9_whole_73 : decode cX9_whole 73 = .ok (.irem, 1) := by decide +kernel
theorem dX9_whole_74 : decode cX9_whole 74 = .ok (.ireturn, 1) := by decide +kernel
theorem dX9_isSafe_0 : decode cX9_isSafe 0 = .ok (.iconst 0, 1) := by decide +kernel
theorem dX9_isSafe_1 : decode cX9_isSafe 1 = .ok (.istore_n 3, 1) := by decide +kernel
theorem dX9_isSafe_2 : decode cX9_isSafe 2 = .ok (.iconst 0, 1) := by decide +kernel
theorem dX9_isSafe_3 : decode cX9_isSafe 3 = .ok (.istore 4, 2) := by decide +kernel
theorem dX9_isSafe_5 : decode cX9_isSafe 5 = .ok (.iload 4, 2) := by decide +kernel
theorem dX9_isSafe_7 : decode cX9_isSafe 7 = .ok (.iconst 4, 1) := by decide +kernel
theorem dX9_isSafe_8 : decode cX9_isSafe 8 = .ok (.if_icmp .ge 37, 3) := by decide +kernel
theorem dX9_isSafe_11 : decode cX9_isSafe 11 = .ok (.iload_n 3, 1) := by decide +kernel
theorem dX9_isSafe_12 : decode cX9_isSafe 12 = .ok (.aload_n 0, 1) := by decide +kernel
theorem dX9_isSafe_13 : decode cX9_isSafe 13 = .ok (.iload 4, 2) := by decide +kernel
theorem dX9_isSafe_15 : decode cX9_isSafe 15 = .ok (.invokevirtual 134, 3) := by decide +kernel
theorem dX9_isSafe_18 : decode cX9_isSafe 18 = .ok (.ifCond .eq 18, 3) := by decide +kernel
theorem dX9_isSafe_21 : decode cX9_isSafe 21 = .ok (.iconst 1, 1) := by decide +kernel
theorem dX9_isSafe_22 : decode cX9_isSafe 22 = .ok (.aload_n 0, 1) := by decide +kernel
theorem dX9_isSafe_23 : decode cX9_isSafe 23 = .ok (.getfield 7, 3) := by decide +kernel
theorem dX9_isSafe_26 : decode cX9_isSafe 26 = .ok (.bipush 50, 2) := by decide +kernel
theorem dX9_isSafe_28 : decode cX9_isSafe 28 = .ok (.iload 4, 2) := by decide +kernel
theorem dX9_isSafe_30 : decode cX9_isSafe 30 = .ok (.iadd, 1) := by decide +kernel
theorem dX9_isSafe_31 : decode cX9_isSafe 31 = .ok (.iaload, 1) := by decide +kernel
theorem dX9_isSafe_32 : decode cX9_isSafe 32 = .ok (.ishl, 1) := by decide +kernel
theorem dX9_isSafe_33 : decode cX9_isSafe 33 = .ok (.goto 4, 3) := by decide +kernel
theorem dX9_isSafe_36 : decode cX9_isSafe 36 = .ok (.iconst 0, 1) := by decide +kernel
theorem dX9_isSafe_37 : decode cX9_isSafe 37 = .ok (.ior, 1) := by decide +kernel
theorem dX9_isSafe_38 : decode cX9_isSafe 38 = .ok (.istore_n 3, 1) := by decide +kernel
theorem dX9_isSafe_39 : decode cX9_isSafe 39 = .ok (.iinc 4 1, 3) := by decide +kernel
theorem dX9_isSafe_42 : decode cX9_isSafe 42 = .ok (.goto (-37), 3) := by decide +kernel
theorem dX9_isSafe_45 : decode cX9_isSafe 45 = .ok (.iconst (-1), 1) := by decide +kernel
theorem dX9_isSafe_46 : decode cX9_isSafe 46 = .ok (.istore 4, 2) := by decide +kernel
theorem dX9_isSafe_48 : decode cX9_isSafe 48 = .ok (.iload_n 3, 1) := by decide +kernel
theorem dX9_isSafe_49 : decode cX9_isSafe 49 = .ok (.iload 4, 2) := by decide +kernel
theorem dX9_isSafe_51 : decode cX9_isSafe 51 = .ok (.if_icmp .eq 84, 3) := by decide +kernel
theorem dX9_isSafe_54 : decode cX9_isSafe 54 = .ok (.iload_n 3, 1) := by decide +kernel
theorem dX9_isSafe_55 : decode cX9_isSafe 55 = .ok (.istore 4, 2) := by decide +kernel
theorem dX9_isSafe_57 : decode cX9_isSafe 57 = .ok (.iconst 0, 1) := by decide +kernel
theorem dX9_isSafe_58 : decode cX9_isSafe 58 = .ok (.istore 5, 2) := by decide +kernel
theorem dX9_isSafe_60 : decode cX9_isSafe 60 = .ok (.iload 5, 2) := by decide +kernel
theorem dX9_isSafe_62 : decode cX9_isSafe 62 = .ok (.bipush 25, 2) := by decide +kernel
theorem dX9_isSafe_64 : decode cX9_isSafe 64 = .ok (.if_icmp .ge 68, 3) := by decide +kernel
theorem dX9_isSafe_67 : decode cX9_isSafe 67 = .ok (.iconst 0, 1) := by decide +kernel
theorem dX9_isSafe_68 : decode cX9_isSafe 68 = .ok (.istore 6, 2) := by decide +kernel
theorem dX9_isSafe_70 : decode cX9_isSafe 70 = .ok (.iload 6, 2) := by decide +kernel
theorem dX9_isSafe_72 : decode cX9_isSafe 72 = .ok (.iconst 4, 1) := by decide +kernel
theorem dX9_isSafe_73 : decode cX9_isSafe 73 = .ok (.if_icmp .ge 53, 3) := by decide +kernel
theorem dX9_isSafe_76 : decode cX9_isSafe 76 = .ok (.iload 5, 2) := by decide +kernel
theorem dX9_isSafe_78 : decode cX9_isSafe 78 = .ok (.iload 6, 2) := by decide +kernel
theorem dX9_isSafe_80 : decode cX9_isSafe 80 = .ok (.invokestatic 91, 3) := by decide +kernel
theorem dX9_isSafe_83 : decode cX9_isSafe 83 = .ok (.istore 7, 2) := by decide +kernel
theorem dX9_isSafe_85 : decode cX9_isSafe 85 = .ok (.iload_n 3, 1) := by decide +kernel
theorem dX9_isSafe_86 : decode cX9_isSafe 86 = .ok (.iload 4, 2) := by decide +kernel
theorem dX9_isSafe_88 : decode cX9_isSafe 88 = .ok (.iload 5, 2) := by decide +kernel
theorem dX9_isSafe_90 : decode cX9_isSafe 90 = .ok (.invokestatic 55, 3) := by decide +kernel
theorem dX9_isSafe_93 : decode cX9_isSafe 93 = .ok (.ifCond .eq 24, 3) := by decide +kernel
theorem dX9_isSafe_96 : decode cX9_isSafe 96 = .ok (.iload 7, 2) := by decide +kernel
theorem dX9_isSafe_98 : decode cX9_isSafe 98 = .ok (.ifCond .lt 19, 3) := by decide +kernel
theorem dX9_isSafe_101 : decode cX9_isSafe 101 = .ok (.iload_n 2, 1) := by decide +kernel
theorem dX9_isSafe_102 : decode cX9_isSafe 102 = .ok (.iload 7, 2) := by decide +kernel
theorem dX9_isSafe_104 : decode cX9_isSafe 104 = .ok (.invokestatic 55, 3) := by decide +kernel
theorem dX9_isSafe_107 : decode cX9_isSafe 107 = .ok (.ifCond .ne 10, 3) := by decide +kernel
theorem dX9_isSafe_110 : decode cX9_isSafe 110 = .ok (.iconst 1, 1) := by decide +kernel
theorem dX9_isSafe_111 : decode cX9_isSafe 111 = .ok (.iload 7, 2) := by decide +kernel
theorem dX9_isSafe_113 : decode cX9_isSafe 113 = .ok (.ishl, 1) := by decide +kernel
theorem dX9_isSafe_114 : decode cX9_isSafe 114 = .ok (.goto 4, 3) := by decide +kernel
theorem dX9_isSafe_117 : decode cX9_isSafe 117 = .ok (.iconst 0, 1) := by decide +kernel
theorem dX9_isSafe_118 : decode cX9_isSafe 118 = .ok (.ior, 1) := by decide +kernel
theorem dX9_isSafe_119 : decode cX9_isSafe 119 = .ok (.istore_n 3, 1) := by decide +kernel
theorem dX9_isSafe_120 : decode cX9_isSafe 120 = .ok (.iinc 6 1, 3) := by decide +kernel
theorem dX9_isSafe_123 : decode cX9_isSafe 123 = .ok (.goto (-53), 3) := by decide +kernel
theorem dX9_isSafe_126 : decode cX9_isSafe 126 = .ok (.iinc 5 1, 3) := by decide +kernel
theorem dX9_isSafe_129 : decode cX9_isSafe 129 = .ok (.goto (-69), 3) := by decide +kernel
theorem dX9_isSafe_132 : decode cX9_isSafe 132 = .ok (.goto (-84), 3) := by decide +kernel
theorem dX9_isSafe_135 : decode cX9_isSafe 135 = .ok (.iload_n 3, 1) := by decide +kernel
theorem dX9_isSafe_136 : decode cX9_isSafe 136 = .ok (.iload_n 1, 1) := by decide +kernel
theorem dX9_isSafe_137 : decode cX9_isSafe 137 = .ok (.invokestatic 55, 3) := by decide +kernel
theorem dX9_isSafe_140 : decode cX9_isSafe 140 = .ok (.ifCond .ne 7, 3) := by decide +kernel
theorem dX9_isSafe_143 : decode cX9_isSafe 143 = .ok (.iconst 1, 1) := by decide +kernel
theorem dX9_isSafe_144 : decode cX9_isSafe 144 = .ok (.goto 4, 3) := by decide +kernel
theorem dX9_isSafe_147 : decode cX9_isSafe 147 = .ok (.iconst 0, 1) := by decide +kernel
theorem dX9_isSafe_148 : decode cX9_isSafe 148 = .ok (.ireturn, 1) := by decide +kernel
theorem dX9_bits_0 : decode cX9_bits 0 = .ok (.iconst 0, 1) := by decide +kernel
theorem dX9_bits_1 : decode cX9_bits 1 = .ok (.istore_n 1, 1) := by decide +kernel
theorem dX9_bits_2 : decode cX9_bits 2 = .ok (.iconst 0, 1) := by decide +kernel
theorem dX9_bits_3 : decode cX9_bits 3 = .ok (.istore_n 2, 1) := by decide +kernel
theorem dX9_bits_4 : decode cX9_bits 4 = .ok (.iload_n 2, 1) := by decide +kernel
theorem dX9_bits_5 : decode cX9_bits 5 = .ok (.bipush 25, 2) := by decide +kernel
theorem dX9_bits_7 : decode cX9_bits 7 = .ok (.if_icmp .ge 17, 3) := by decide +kernel
theorem dX9_bits_10 : decode cX9_bits 10 = .ok (.iload_n 1, 1) := by decide +kernel
theorem dX9_bits_11 : decode cX9_bits 11 = .ok (.iload_n 0, 1) := by decide +kernel
theorem dX9_bits_12 : decode cX9_bits 12 = .ok (.iload_n 2, 1) := by decide +kernel
theorem dX9_bits_13 : decode cX9_bits 13 = .ok (.ishr, 1) := by decide +kernel
theorem dX9_bits_14 : decode cX9_bits 14 = .ok (.iconst 1, 1) := by decide +kernel
theorem dX9_bits_15 : decode cX9_bits 15 = .ok (.iand, 1) := by decide +kernel
theorem dX9_bits_16 : decode cX9_bits 16 = .ok (.iadd, 1) := by decide +kernel
theorem dX9_bits_17 : decode cX9_bits 17 = .ok (.istore_n 1, 1) := by decide +kernel
theorem dX9_bits_18 : decode cX9_bits 18 = .ok (.iinc 2 1, 3) := by decide +kernel
theorem dX9_bits_21 : decode cX9_bits 21 = .ok (.goto (-17), 3) := by decide +kernel
theorem dX9_bits_24 : decode cX9_bits 24 = .ok (.iload_n 1, 1) := by decide +kernel
theorem dX9_bits_25 : decode cX9_bits 25 = .ok (.ireturn, 1) := by decide +kernel
theorem dX9_tryShut_0 : decode cX9_tryShut 0 = .ok (.iload_n 3, 1) := by decide +kernel
theorem dX9_tryShut_1 : decode cX9_tryShut 1 = .ok (.ifCond .ne 19, 3) := by decide +kernel
theorem dX9_tryShut_4 : decode cX9_tryShut 4 = .ok (.aload_n 0, 1) := by decide +kernel
theorem dX9_tryShut_5 : decode cX9_tryShut 5 = .ok (.iload_n 1, 1) := by decide +kernel
theorem dX9_tryShut_6 : decode cX9_tryShut 6 = .ok (.iconst 0, 1) := by decide +kernel
theorem dX9_tryShut_7 : decode cX9_tryShut 7 = .ok (.invokevirtual 144, 3) := by decide +kernel
theorem dX9_tryShut_10 : decode cX9_tryShut 10 = .ok (.ifCond .eq 7, 3) := by decide +kernel
theorem dX9_tryShut_13 : decode cX9_tryShut 13 = .ok (.iconst 0, 1) := by decide +kernel
theorem dX9_tryShut_14 : decode cX9_tryShut 14 = .ok (.goto 5, 3) := by decide +kernel
theorem dX9_tryShut_17 : decode cX9_tryShut 17 = .ok (.bipush (-6), 2) := by decide +kernel
theorem dX9_tryShut_19 : decode cX9_tryShut 19 = .ok (.ireturn, 1) := by decide +kernel
theorem dX9_tryShut_20 : decode cX9_tryShut 20 = .ok (.iconst 0, 1) := by decide +kernel
theorem dX9_tryShut_21 : decode cX9_tryShut 21 = .ok (.istore 4, 2) := by decide +kernel
theorem dX9_tryShut_23 : decode cX9_tryShut 23 = .ok (.iload 4, 2) := by decide +kernel
theorem dX9_tryShut_25 : decode cX9_tryShut 25 = .ok (.bipush 25, 2) := by decide +kernel
theorem dX9_tryShut_27 : decode cX9_tryShut 27 = .ok (.if_icmp .ge 218, 3) := by decide +kernel
theorem dX9_tryShut_30 : decode cX9_tryShut 30 = .ok (.iload_n 2, 1) := by decide +kernel
theorem dX9_tryShut_31 : decode cX9_tryShut 31 = .ok (.iload 4, 2) := by decide +kernel
theorem dX9_tryShut_33 : decode cX9_tryShut 33 = .ok (.invokestatic 55, 3) := by decide +kernel
theorem dX9_tryShut_36 : decode cX9_tryShut 36 = .ok (.ifCond .ne 6, 3) := by decide +kernel
theorem dX9_tryShut_39 : decode cX9_tryShut 39 = .ok (.goto 200, 3) := by decide +kernel
theorem dX9_tryShut_42 : decode cX9_tryShut 42 = .ok (.iload_n 3, 1) := by decide +kernel
theorem dX9_tryShut_43 : decode cX9_tryShut 43 = .ok (.iconst 1, 1) := by decide +kernel
theorem dX9_tryShut_44 : decode cX9_tryShut 44 = .ok (.if_icmp .ne 20, 3) := by decide +kernel
theorem dX9_tryShut_47 : decode cX9_tryShut 47 = .ok (.aload_n 0, 1) := by decide +kernel
theorem dX9_tryShut_48 : decode cX9_tryShut 48 = .ok (.iload_n 1, 1) := by decide +kernel
theorem dX9_tryShut_49 : decode cX9_tryShut 49 = .ok (.iconst 1, 1) := by decide +kernel
theorem dX9_tryShut_50 : decode cX9_tryShut 50 = .ok (.iload 4, 2) := by decide +kernel
theorem dX9_tryShut_52 : decode cX9_tryShut 52 = .ok (.ishl, 1) := by decide +kernel
theorem dX9_tryShut_53 : decode cX9_tryShut 53 = .ok (.invokevirtual 144, 3) := by decide +kernel
theorem dX9_tryShut_56 : decode cX9_tryShut 56 = .ok (.ifCond .eq 8, 3) := by decide +kernel
theorem dX9_tryShut_59 : decode cX9_tryShut 59 = .ok (.iconst 1, 1) := by decide +kernel
theorem dX9_tryShut_60 : decode cX9_tryShut 60 = .ok (.iload 4, 2) := by decide +kernel
theorem dX9_tryShut_62 : decode cX9_tryShut 62 = .ok (.ishl, 1) := by decide +kernel
theorem dX9_tryShut_63 : decode cX9_tryShut 63 = .ok (.ireturn, 1) := by decide +kernel
theorem dX9_tryShut_64 : decode cX9_tryShut 64 = .ok (.iconst 0, 1) := by decide +kernel
theorem dX9_tryShut_65 : decode cX9_tryShut 65 = .ok (.istore 5, 2) := by decide +kernel
theorem dX9_tryShut_67 : decode cX9_tryShut 67 = .ok (.iload 5, 2) := by decide +kernel
theorem dX9_tryShut_69 : decode cX9_tryShut 69 = .ok (.iload 4, 2) := by decide +kernel
theorem dX9_tryShut_71 : decode cX9_tryShut 71 = .ok (.if_icmp .ge 168, 3) := by decide +kernel
theorem dX9_tryShut_74 : decode cX9_tryShut 74 = .ok (.iload_n 3, 1) := by decide +kernel
theorem dX9_tryShut_75 : decode cX9_tryShut 75 = .ok (.iconst 1, 1) := by decide +kernel
theorem dX9_tryShut_76 : decode cX9_tryShut 76 = .ok (.if_icmp .le 163, 3) := by decide +kernel
theorem dX9_tryShut_79 : decode cX9_tryShut 79 = .ok (.iload_n 2, 1) := by decide +kernel
theorem dX9_tryShut_80 : decode cX9_tryShut 80 = .ok (.iload 5, 2) := by decide +kernel
theorem dX9_tryShut_82 : decode cX9_tryShut 82 = .ok (.invokestatic 55, 3) := by decide +kernel
theorem dX9_tryShut_85 : decode cX9_tryShut 85 = .ok (.ifCond .ne 6, 3) := by decide +kernel
theorem dX9_tryShut_88 : decode cX9_tryShut 88 = .ok (.goto 145, 3) := by decide +kernel
theorem dX9_tryShut_91 : decode cX9_tryShut 91 = .ok (.iconst 1, 1) := by decide +kernel
theorem dX9_tryShut_92 : decode cX9_tryShut 92 = .ok (.iload 4, 2) := by decide +kernel
theorem dX9_tryShut_94 : decode cX9_tryShut 94 = .ok (.ishl, 1) := by decide +kernel
theorem dX9_tryShut_95 : decode cX9_tryShut 95 = .ok (.iconst 1, 1) := by decide +kernel
theorem dX9_tryShut_96 : decode cX9_tryShut 96 = .ok (.iload 5, 2) := by decide +kernel
theorem dX9_tryShut_98 : decode cX9_tryShut 98 = .ok (.ishl, 1) := by decide +kernel
theorem dX9_tryShut_99 : decode cX9_tryShut 99 = .ok (.ior, 1) := by decide +kernel
theorem dX9_tryShut_100 : decode cX9_tryShut 100 = .ok (.istore 6, 2) := by decide +kernel
theorem dX9_tryShut_102 : decode cX9_tryShut 102 = .ok (.iload_n 3, 1) := by decide +kernel
theorem dX9_tryShut_103 : decode cX9_tryShut 103 = .ok (.iconst 2, 1) := by decide +kernel
theorem dX9_tryShut_104 : decode cX9_tryShut 104 = .ok (.if_icmp .ne 16, 3) := by decide +kernel
theorem dX9_tryShut_107 : decode cX9_tryShut 107 = .ok (.aload_n 0, 1) := by decide +kernel
theorem dX9_tryShut_108 : decode cX9_tryShut 108 = .ok (.iload_n 1, 1) := by decide +kernel
theorem dX9_tryShut_109 : decode cX9_tryShut 109 = .ok (.iload 6, 2) := by decide +kernel
theorem dX9_tryShut_111 : decode cX9_tryShut 111 = .ok (.invokevirtual 144, 3) := by decide +kernel
theorem dX9_tryShut_114 : decode cX9_tryShut 114 = .ok (.ifCond .eq 6, 3) := by decide +kernel
theorem dX9_tryShut_117 : decode cX9_tryShut 117 = .ok (.iload 6, 2) := by decide +kernel
theorem dX9_tryShut_119 : decode cX9_tryShut 119 = .ok (.ireturn, 1) := by decide +kernel
theorem dX9_tryShut_120 : decode cX9_tryShut 120 = .ok (.iconst 0, 1) := by decide +kernel
theorem dX9_tryShut_121 : decode cX9_tryShut 121 = .ok (.istore 7, 2) := by decide +kernel
theorem dX9_tryShut_123 : decode cX9_tryShut 123 = .ok (.iload 7, 2) := by decide +kernel
theorem dX9_tryShut_125 : decode cX9_tryShut 125 = .ok (.iload 5, 2) := by decide +kernel
theorem dX9_tryShut_127 : decode cX9_tryShut 127 = .ok (.if_icmp .ge 106, 3) := by decide +kernel
theorem dX9_tryShut_130 : decode cX9_tryShut 130 = .ok (.iload_n 3, 1) := by decide +kernel
theorem dX9_tryShut_131 : decode cX9_tryShut 131 = .ok (.iconst 2, 1) := by decide +kernel
theorem dX9_tryShut_132 : decode cX9_tryShut 132 = .ok (.if_icmp .le 101, 3) := by decide +kernel
theorem dX9_tryShut_135 : decode cX9_tryShut 135 = .ok (.iload_n 2, 1) := by decide +kernel
theorem dX9_tryShut_136 : decode cX9_tryShut 136 = .ok (.iload 7, 2) := by decide +kernel
theorem dX9_tryShut_138 : decode cX9_tryShut 138 = .ok (.invokestatic 55, 3) := by decide +kernel
theorem dX9_tryShut_141 : decode cX9_tryShut 141 = .ok (.ifCond .ne 6, 3) := by decide +kernel
theorem dX9_tryShut_144 : decode cX9_tryShut 144 = .ok (.goto 83, 3) := by decide +kernel
theorem dX9_tryShut_147 : decode cX9_tryShut 147 = .ok (.iload 6, 2) := by decide +kernel
theorem dX9_tryShut_149 : decode cX9_tryShut 149 = .ok (.iconst 1, 1) := by decide +kernel
theorem dX9_tryShut_150 : decode cX9_tryShut 150 = .ok (.iload 7, 2) := by decide +kernel
theorem dX9_tryShut_152 : decode cX9_tryShut 152 = .ok (.ishl, 1) := by decide +kernel
theorem dX9_tryShut_153 : decode cX9_tryShut 153 = .ok (.ior, 1) := by decide +kernel
theorem dX9_tryShut_154 : decode cX9_tryShut 154 = .ok (.istore 8, 2) := by decide +kernel
theorem dX9_tryShut_156 : decode cX9_tryShut 156 = .ok (.iload_n 3, 1) := by decide +kernel
theorem dX9_tryShut_157 : decode cX9_tryShut 157 = .ok (.iconst 3, 1) := by decide +kernel
theorem dX9_tryShut_158 : decode cX9_tryShut 158 = .ok (.if_icmp .ne 16, 3) := by decide +kernel
theorem dX9_tryShut_161 : decode cX9_tryShut 161 = .ok (.aload_n 0, 1) := by decide +kernel
theorem dX9_tryShut_162 : decode cX9_tryShut 162 = .ok (.iload_n 1, 1) := by decide +kernel
theorem dX9_tryShut_163 : decode cX9_tryShut 163 = .ok (.iload 8, 2) := by decide +kernel
theorem dX9_tryShut_165 : decode cX9_tryShut 165 = .ok (.invokevirtual 144, 3) := by decide +kernel
theorem dX9_tryShut_168 : decode cX9_tryShut 168 = .ok (.ifCond .eq 6, 3) := by decide +kernel
theorem dX9_tryShut_171 : decode cX9_tryShut 171 = .ok (.iload 8, 2) := by decide +kernel
theorem dX9_tryShut_173 : decode cX9_tryShut 173 = .ok (.ireturn, 1) := by decide +kernel
theorem dX9_tryShut_174 : decode cX9_tryShut 174 = .ok (.iconst 0, 1) := by decide +kernel
theorem dX9_tryShut_175 : decode cX9_tryShut 175 = .ok (.istore 9, 2) := by decide +kernel
theorem dX9_tryShut_177 : decode cX9_tryShut 177 = .ok (.iload 9, 2) := by decide +kernel
theorem dX9_tryShut_179 : decode cX9_tryShut 179 = .ok (.iload 7, 2) := by decide +kernel
theorem dX9_tryShut_181 : decode cX9_tryShut 181 = .ok (.if_icmp .ge 46, 3) := by decide +kernel
theorem dX9_tryShut_184 : decode cX9_tryShut 184 = .ok (.iload_n 3, 1) := by decide +kernel
theorem dX9_tryShut_185 : decode cX9_tryShut 185 = .ok (.iconst 3, 1) := by decide +kernel
theorem dX9_tryShut_186 : decode cX9_tryShut 186 = .ok (.if_icmp .le 41, 3) := by decide +kernel
theorem dX9_tryShut_189 : decode cX9_tryShut 189 = .ok (.iload_n 2, 1) := by decide +kernel
theorem dX9_tryShut_190 : decode cX9_tryShut 190 = .ok (.iload 9, 2) := by decide +kernel
theorem dX9_tryShut_192 : decode cX9_tryShut 192 = .ok (.invokestatic 55, 3) := by decide +kernel
theorem dX9_tryShut_195 : decode cX9_tryShut 195 = .ok (.ifCond .eq 26, 3) := by decide +kernel
theorem dX9_tryShut_198 : decode cX9_tryShut 198 = .ok (.aload_n 0, 1) := by decide +kernel
theorem dX9_tryShut_199 : decode cX9_tryShut 199 = .ok (.iload_n 1, 1) := by decide +kernel
theorem dX9_tryShut_200 : decode cX9_tryShut 200 = .ok (.iload 8, 2) := by decide +kernel
theorem dX9_tryShut_202 : decode cX9_tryShut 202 = .ok (.iconst 1, 1) := by decide +kernel
theorem dX9_tryShut_203 : decode cX9_tryShut 203 = .ok (.iload 9, 2) := by decide +kernel
theorem dX9_tryShut_205 : decode cX9_tryShut 205 = .ok (.ishl, 1) := by decide +kernel
theorem dX9_tryShut_206 : decode cX9_tryShut 206 = .ok (.ior, 1) := by decide +kernel
theorem dX9_tryShut_207 : decode cX9_tryShut 207 = .ok (.invokevirtual 144, 3) := by decide +kernel
theorem dX9_tryShut_210 : decode cX9_tryShut 210 = .ok (.ifCond .eq 11, 3) := by decide +kernel
theorem dX9_tryShut_213 : decode cX9_tryShut 213 = .ok (.iload 8, 2) := by decide +kernel
theorem dX9_tryShut_215 : decode cX9_tryShut 215 = .ok (.iconst 1, 1) := by decide +kernel
theorem dX9_tryShut_216 : decode cX9_tryShut 216 = .ok (.iload 9, 2) := by decide +kernel
theorem dX9_tryShut_218 : decode cX9_tryShut 218 = .ok (.ishl, 1) := by decide +kernel
theorem dX9_tryShut_219 : decode cX9_tryShut 219 = .ok (.ior, 1) := by decide +kernel
theorem dX9_tryShut_220 : decode cX9_tryShut 220 = .ok (.ireturn, 1) := by decide +kernel
theorem dX9_tryShut_221 : decode cX9_tryShut 221 = .ok (.iinc 9 1, 3) := by decide +kernel
theorem dX9_tryShut_224 : decode cX9_tryShut 224 = .ok (.goto (-47), 3) := by decide +kernel
theorem dX9_tryShut_227 : decode cX9_tryShut 227 = .ok (.iinc 7 1, 3) := by decide +kernel
theorem dX9_tryShut_230 : decode cX9_tryShut 230 = .ok (.goto (-107), 3) := by decide +kernel
theorem dX9_tryShut_233 : decode cX9_tryShut 233 = .ok (.iinc 5 1, 3) := by decide +kernel
theorem dX9_tryShut_236 : decode cX9_tryShut 236 = .ok (.goto (-169), 3) := by decide +kernel
theorem dX9_tryShut_239 : decode cX9_tryShut 239 = .ok (.iinc 4 1, 3) := by decide +kernel
theorem dX9_tryShut_242 : decode cX9_tryShut 242 = .ok (.goto (-219), 3) := by decide +kernel
theorem dX9_tryShut_245 : decode cX9_tryShut 245 = .ok (.bipush (-6), 2) := by decide +kernel
theorem dX9_tryShut_247 : decode cX9_tryShut 247 = .ok (.ireturn, 1) := by decide +kernel
theorem dX9_camphored_0 : decode cX9_camphored 0 = .ok (.iload_n 1, 1) := by decide +kernel
theorem dX9_camphored_1 : decode cX9_camphored 1 = .ok (.invokestatic 59, 3) := by decide +kernel
theorem dX9_camphored_4 : decode cX9_camphored 4 = .ok (.ifCond .ne 5, 3) := by decide +kernel
theorem dX9_camphored_7 : decode cX9_camphored 7 = .ok (.iconst (-1), 1) := by decide +kernel
theorem dX9_camphored_8 : decode cX9_camphored 8 = .ok (.ireturn, 1) := by decide +kernel
theorem dX9_camphored_9 : decode cX9_camphored 9 = .ok (.iload_n 2, 1) := by decide +kernel
theorem dX9_camphored_10 : decode cX9_camphored 10 = .ok (.iconst 0, 1) := by decide +kernel
theorem dX9_camphored_11 : decode cX9_camphored 11 = .ok (.iconst 1, 1) := by decide +kernel
theorem dX9_camphored_12 : decode cX9_camphored 12 = .ok (.invokestatic 51, 3) := by decide +kernel
theorem dX9_camphored_15 : decode cX9_camphored 15 = .ok (.ifCond .ne 6, 3) := by decide +kernel
theorem dX9_camphored_18 : decode cX9_camphored 18 = .ok (.bipush (-2), 2) := by decide +kernel
theorem dX9_camphored_20 : decode cX9_camphored 20 = .ok (.ireturn, 1) := by decide +kernel
theorem dX9_camphored_21 : decode cX9_camphored 21 = .ok (.ldc 147, 2) := by decide +kernel
theorem dX9_camphored_23 : decode cX9_camphored 23 = .ok (.iconst 1, 1) := by decide +kernel
theorem dX9_camphored_24 : decode cX9_camphored 24 = .ok (.iload_n 1, 1) := by decide +kernel
theorem dX9_camphored_25 : decode cX9_camphored 25 = .ok (.ishl, 1) := by decide +kernel
theorem dX9_camphored_26 : decode cX9_camphored 26 = .ok (.iconst (-1), 1) := by decide +kernel
theorem dX9_camphored_27 : decode cX9_camphored 27 = .ok (.ixor, 1) := by decide +kernel
theorem dX9_camphored_28 : decode cX9_camphored 28 = .ok (.iand, 1) := by decide +kernel
theorem dX9_camphored_29 : decode cX9_camphored 29 = .ok (.istore_n 3, 1) := by decide +kernel
theorem dX9_camphored_30 : decode cX9_camphored 30 = .ok (.iconst 0, 1) := by decide +kernel
theorem dX9_camphored_31 : decode cX9_camphored 31 = .ok (.istore 4, 2) := by decide +kernel
theorem dX9_camphored_33 : decode cX9_camphored 33 = .ok (.iload 4, 2) := by decide +kernel
theorem dX9_camphored_35 : decode cX9_camphored 35 = .ok (.iconst 4, 1) := by decide +kernel
theorem dX9_camphored_36 : decode cX9_camphored 36 = .ok (.if_icmp .ge 39, 3) := by decide +kernel
theorem dX9_camphored_39 : decode cX9_camphored 39 = .ok (.iload_n 3, 1) := by decide +kernel
theorem dX9_camphored_40 : decode cX9_camphored 40 = .ok (.aload_n 0, 1) := by decide +kernel
theorem dX9_camphored_41 : decode cX9_camphored 41 = .ok (.iload 4, 2) := by decide +kernel
theorem dX9_camphored_43 : decode cX9_camphored 43 = .ok (.invokevirtual 134, 3) := by decide +kernel
theorem dX9_camphored_46 : decode cX9_camphored 46 = .ok (.ifCond .eq 20, 3) := by decide +kernel
theorem dX9_camphored_49 : decode cX9_camphored 49 = .ok (.iconst 1, 1) := by decide +kernel
theorem dX9_camphored_50 : decode cX9_camphored 50 = .ok (.aload_n 0, 1) := by decide +kernel
theorem dX9_camphored_51 : decode cX9_camphored 51 = .ok (.getfield 7, 3) := by decide +kernel
theorem dX9_camphored_54 : decode cX9_camphored 54 = .ok (.bipush 50, 2) := by decide +kernel
theorem dX9_camphored_56 : decode cX9_camphored 56 = .ok (.iload 4, 2) := by decide +kernel
theorem dX9_camphored_58 : decode cX9_camphored 58 = .ok (.iadd, 1) := by decide +kernel
theorem dX9_camphored_59 : decode cX9_camphored 59 = .ok (.iaload, 1) := by decide +kernel
theorem dX9_camphored_60 : decode cX9_camphored 60 = .ok (.ishl, 1) := by decide +kernel
theorem dX9_camphored_61 : decode cX9_camphored 61 = .ok (.iconst (-1), 1) := by decide +kernel
theorem dX9_camphored_62 : decode cX9_camphored 62 = .ok (.ixor, 1) := by decide +kernel
theorem dX9_camphored_63 : decode cX9_camphored 63 = .ok (.goto 4, 3) := by decide +kernel
theorem dX9_camphored_66 : decode cX9_camphored 66 = .ok (.iconst (-1), 1) := by decide +kernel
theorem dX9_camphored_67 : decode cX9_camphored 67 = .ok (.iand, 1) := by decide +kernel
theorem dX9_camphored_68 : decode cX9_camphored 68 = .ok (.istore_n 3, 1) := by decide +kernel
theorem dX9_camphored_69 : decode cX9_camphored 69 = .ok (.iinc 4 1, 3) := by decide +kernel
theorem dX9_camphored_72 : decode cX9_camphored 72 = .ok (.goto (-39), 3) := by decide +kernel
theorem dX9_camphored_75 : decode cX9_camphored 75 = .ok (.aload_n 0, 1) := by decide +kernel
theorem dX9_camphored_76 : decode cX9_camphored 76 = .ok (.iload_n 1, 1) := by decide +kernel
theorem dX9_camphored_77 : decode cX9_camphored 77 = .ok (.iload_n 3, 1) := by decide +kernel
theorem dX9_camphored_78 : decode cX9_camphored 78 = .ok (.invokevirtual 144, 3) := by decide +kernel
theorem dX9_camphored_81 : decode cX9_camphored 81 = .ok (.ifCond .ne 6, 3) := by decide +kernel
theorem dX9_camphored_84 : decode cX9_camphored 84 = .ok (.bipush (-6), 2) := by decide +kernel
theorem dX9_camphored_86 : decode cX9_camphored 86 = .ok (.ireturn, 1) := by decide +kernel
theorem dX9_camphored_87 : decode cX9_camphored 87 = .ok (.bipush (-6), 2) := by decide +kernel
theorem dX9_camphored_89 : decode cX9_camphored 89 = .ok (.istore 4, 2) := by decide +kernel
theorem dX9_camphored_91 : decode cX9_camphored 91 = .ok (.iconst 0, 1) := by decide +kernel
theorem dX9_camphored_92 : decode cX9_camphored 92 = .ok (.istore 5, 2) := by decide +kernel
theorem dX9_camphored_94 : decode cX9_camphored 94 = .ok (.iload 5, 2) := by decide +kernel
theorem dX9_camphored_96 : decode cX9_camphored 96 = .ok (.iconst 5, 1) := by decide +kernel
theorem dX9_camphored_97 : decode cX9_camphored 97 = .ok (.if_icmp .ge 24, 3) := by decide +kernel
theorem dX9_camphored_100 : decode cX9_camphored 100 = .ok (.iload 4, 2) := by decide +kernel
theorem dX9_camphored_102 : decode cX9_camphored 102 = .ok (.ifCond .ge 19, 3) := by decide +kernel
theorem dX9_camphored_105 : decode cX9_camphored 105 = .ok (.aload_n 0, 1) := by decide +kernel
theorem dX9_camphored_106 : decode cX9_camphored 106 = .ok (.iload_n 1, 1) := by decide +kernel
theorem dX9_camphored_107 : decode cX9_camphored 107 = .ok (.iload_n 3, 1) := by decide +kernel
theorem dX9_camphored_108 : decode cX9_camphored 108 = .ok (.iload 5, 2) := by decide +kernel
theorem dX9_camphored_110 : decode cX9_camphored 110 = .ok (.invokevirtual 148, 3) := by decide +kernel
theorem dX9_camphored_113 : decode cX9_camphored 113 = .ok (.istore 4, 2) := by decide +kernel
theorem dX9_camphored_115 : decode cX9_camphored 115 = .ok (.iinc 5 1, 3) := by decide +kernel
theorem dX9_camphored_118 : decode cX9_camphored 118 = .ok (.goto (-24), 3) := by decide +kernel
theorem dX9_camphored_121 : decode cX9_camphored 121 = .ok (.iload 4, 2) := by decide +kernel
theorem dX9_camphored_123 : decode cX9_camphored 123 = .ok (.ifCond .lt 8, 3) := by decide +kernel
theorem dX9_camphored_126 : decode cX9_camphored 126 = .ok (.iload_n 2, 1) := by decide +kernel
theorem dX9_camphored_127 : decode cX9_camphored 127 = .ok (.iconst 1, 1) := by decide +kernel
theorem dX9_camphored_128 : decode cX9_camphored 128 = .ok (.if_icmp .ne 8, 3) := by decide +kernel
theorem dX9_camphored_131 : decode cX9_camphored 131 = .ok (.iload 4, 2) := by decide +kernel
theorem dX9_camphored_133 : decode cX9_camphored 133 = .ok (.goto 8, 3) := by decide +kernel
theorem dX9_camphored_136 : decode cX9_camphored 136 = .ok (.iload 4, 2) := by decide +kernel
theorem dX9_camphored_138 : decode cX9_camphored 138 = .ok (.invokestatic 152, 3) := by decide +kernel
theorem dX9_camphored_141 : decode cX9_camphored 141 = .ok (.ireturn, 1) := by decide +kernel
theorem dX9_darned_0 : decode cX9_darned 0 = .ok (.iload_n 1, 1) := by decide +kernel
theorem dX9_darned_1 : decode cX9_darned 1 = .ok (.iconst 0, 1) := by decide +kernel
theorem dX9_darned_2 : decode cX9_darned 2 = .ok (.iconst 1, 1) := by decide +kernel
theorem dX9_darned_3 : decode cX9_darned 3 = .ok (.invokestatic 51, 3) := by decide +kernel
theorem dX9_darned_6 : decode cX9_darned 6 = .ok (.ifCond .ne 6, 3) := by decide +kernel
theorem dX9_darned_9 : decode cX9_darned 9 = .ok (.bipush (-2), 2) := by decide +kernel
theorem dX9_darned_11 : decode cX9_darned 11 = .ok (.ireturn, 1) := by decide +kernel
theorem dX9_darned_12 : decode cX9_darned 12 = .ok (.iconst 0, 1) := by decide +kernel
theorem dX9_darned_13 : decode cX9_darned 13 = .ok (.istore_n 2, 1) := by decide +kernel
theorem dX9_darned_14 : decode cX9_darned 14 = .ok (.iconst 0, 1) := by decide +kernel
theorem dX9_darned_15 : decode cX9_darned 15 = .ok (.istore_n 3, 1) := by decide +kernel
theorem dX9_darned_16 : decode cX9_darned 16 = .ok (.iload_n 3, 1) := by decide +kernel
theorem dX9_darned_17 : decode cX9_darned 17 = .ok (.bipush 25, 2) := by decide +kernel
theorem dX9_darned_19 : decode cX9_darned 19 = .ok (.if_icmp .ge 28, 3) := by decide +kernel
theorem dX9_darned_22 : decode cX9_darned 22 = .ok (.aload_n 0, 1) := by decide +kernel
theorem dX9_darned_23 : decode cX9_darned 23 = .ok (.getfield 7, 3) := by decide +kernel
theorem dX9_darned_26 : decode cX9_darned 26 = .ok (.iload_n 3, 1) := by decide +kernel
theorem dX9_darned_27 : decode cX9_darned 27 = .ok (.iaload, 1) := by decide +kernel
theorem dX9_darned_28 : decode cX9_darned 28 = .ok (.ifCond .ne 13, 3) := by decide +kernel
theorem dX9_darned_31 : decode cX9_darned 31 = .ok (.aload_n 0, 1) := by decide +kernel
theorem dX9_darned_32 : decode cX9_darned 32 = .ok (.getfield 25, 3) := by decide +kernel
theorem dX9_darned_35 : decode cX9_darned 35 = .ok (.iload_n 2, 1) := by decide +kernel
theorem dX9_darned_36 : decode cX9_darned 36 = .ok (.iload_n 3, 1) := by decide +kernel
theorem dX9_darned_37 : decode cX9_darned 37 = .ok (.iastore, 1) := by decide +kernel
theorem dX9_darned_38 : decode cX9_darned 38 = .ok (.iinc 2 1, 3) := by decide +kernel
theorem dX9_darned_41 : decode cX9_darned 41 = .ok (.iinc 3 1, 3) := by decide +kernel
theorem dX9_darned_44 : decode cX9_darned 44 = .ok (.goto (-28), 3) := by decide +kernel
theorem dX9_darned_47 : decode cX9_darned 47 = .ok (.iload_n 2, 1) := by decide +kernel
theorem dX9_darned_48 : decode cX9_darned 48 = .ok (.bipush 9, 2) := by decide +kernel
theorem dX9_darned_50 : decode cX9_darned 50 = .ok (.if_icmp .le 6, 3) := by decide +kernel
theorem dX9_darned_53 : decode cX9_darned 53 = .ok (.bipush (-3), 2) := by decide +kernel
theorem dX9_darned_55 : decode cX9_darned 55 = .ok (.ireturn, 1) := by decide +kernel
theorem dX9_darned_56 : decode cX9_darned 56 = .ok (.iconst 1, 1) := by decide +kernel
theorem dX9_darned_57 : decode cX9_darned 57 = .ok (.istore_n 3, 1) := by decide +kernel
theorem dX9_darned_58 : decode cX9_darned 58 = .ok (.iconst 0, 1) := by decide +kernel
theorem dX9_darned_59 : decode cX9_darned 59 = .ok (.istore 4, 2) := by decide +kernel
theorem dX9_darned_61 : decode cX9_darned 61 = .ok (.iload 4, 2) := by decide +kernel
theorem dX9_darned_63 : decode cX9_darned 63 = .ok (.iload_n 2, 1) := by decide +kernel
theorem dX9_darned_64 : decode cX9_darned 64 = .ok (.if_icmp .ge 13, 3) := by decide +kernel
theorem dX9_darned_67 : decode cX9_darned 67 = .ok (.iload_n 3, 1) := by decide +kernel
theorem dX9_darned_68 : decode cX9_darned 68 = .ok (.iconst 3, 1) := by decide +kernel
theorem dX9_darned_69 : decode cX9_darned 69 = .ok (.imul, 1) := by decide +kernel
theorem dX9_darned_70 : decode cX9_darned 70 = .ok (.istore_n 3, 1) := by decide +kernel
theorem dX9_darned_71 : decode cX9_darned 71 = .ok (.iinc 4 1, 3) := by decide +kernel
theorem dX9_darned_74 : decode cX9_darned 74 = .ok (.goto (-13), 3) := by decide +kernel
theorem dX9_darned_77 : decode cX9_darned 77 = .ok (.iconst 0, 1) := by decide +kernel
theorem dX9_darned_78 : decode cX9_darned 78 = .ok (.istore 4, 2) := by decide +kernel
theorem dX9_darned_80 : decode cX9_darned 80 = .ok (.bipush (-6), 2) := by decide +kernel
theorem dX9_darned_82 : decode cX9_darned 82 = .ok (.istore 5, 2) := by decide +kernel
theorem dX9_darned_84 : decode cX9_darned 84 = .ok (.iload_n 3, 1) := by decide +kernel
theorem dX9_darned_85 : decode cX9_darned 85 = .ok (.iconst 1, 1) := by decide +kernel
theorem dX9_darned_86 : decode cX9_darned 86 = .ok (.isub, 1) := by decide +kernel
theorem dX9_darned_87 : decode cX9_darned 87 = .ok (.istore 6, 2) := by decide +kernel
theorem dX9_darned_89 : decode cX9_darned 89 = .ok (.iload 6, 2) := by decide +kernel
theorem dX9_darned_91 : decode cX9_darned 91 = .ok (.ifCond .lt 26, 3) := by decide +kernel
theorem dX9_darned_94 : decode cX9_darned 94 = .ok (.aload_n 0, 1) := by decide +kernel
theorem dX9_darned_95 : decode cX9_darned 95 = .ok (.iload 6, 2) := by decide +kernel
theorem dX9_darned_97 : decode cX9_darned 97 = .ok (.iload_n 2, 1) := by decide +kernel
theorem dX9_darned_98 : decode cX9_darned 98 = .ok (.invokevirtual 155, 3) := by decide +kernel
theorem dX9_darned_101 : decode cX9_darned 101 = .ok (.ifCond .eq 10, 3) := by decide +kernel
theorem dX9_darned_104 : decode cX9_darned 104 = .ok (.iinc 4 1, 3) := by decide +kernel
theorem dX9_darned_107 : decode cX9_darned 107 = .ok (.iload 6, 2) := by decide +kernel
theorem dX9_darned_109 : decode cX9_darned 109 = .ok (.istore 5, 2) := by decide +kernel
theorem dX9_darned_111 : decode cX9_darned 111 = .ok (.iinc 6 (-1), 3) := by decide +kernel
theorem dX9_darned_114 : decode cX9_darned 114 = .ok (.goto (-25), 3) := by decide +kernel
theorem dX9_darned_117 : decode cX9_darned 117 = .ok (.iload_n 1, 1) := by decide +kernel
theorem dX9_darned_118 : decode cX9_darned 118 = .ok (.ifCond .eq 8, 3) := by decide +kernel
theorem dX9_darned_121 : decode cX9_darned 121 = .ok (.iload 5, 2) := by decide +kernel
theorem dX9_darned_123 : decode cX9_darned 123 = .ok (.ifCond .ge 15, 3) := by decide +kernel
theorem dX9_darned_126 : decode cX9_darned 126 = .ok (.iload_n 1, 1) := by decide +kernel
theorem dX9_darned_127 : decode cX9_darned 127 = .ok (.ifCond .ne 8, 3) := by decide +kernel
theorem dX9_darned_130 : decode cX9_darned 130 = .ok (.iload 4, 2) := by decide +kernel
theorem dX9_darned_132 : decode cX9_darned 132 = .ok (.goto 5, 3) := by decide +kernel
theorem dX9_darned_135 : decode cX9_darned 135 = .ok (.bipush (-6), 2) := by decide +kernel
theorem dX9_darned_137 : decode cX9_darned 137 = .ok (.ireturn, 1) := by decide +kernel
theorem dX9_darned_138 : decode cX9_darned 138 = .ok (.iconst 0, 1) := by decide +kernel
theorem dX9_darned_139 : decode cX9_darned 139 = .ok (.istore 6, 2) := by decide +kernel
theorem dX9_darned_141 : decode cX9_darned 141 = .ok (.iconst 0, 1) := by decide +kernel
theorem dX9_darned_142 : decode cX9_darned 142 = .ok (.istore 7, 2) := by decide +kernel
theorem dX9_darned_144 : decode cX9_darned 144 = .ok (.iload 7, 2) := by decide +kernel
theorem dX9_darned_146 : decode cX9_darned 146 = .ok (.iload_n 2, 1) := by decide +kernel
theorem dX9_darned_147 : decode cX9_darned 147 = .ok (.if_icmp .ge 25, 3) := by decide +kernel
theorem dX9_darned_150 : decode cX9_darned 150 = .ok (.bipush 10, 2) := by decide +kernel
theorem dX9_darned_152 : decode cX9_darned 152 = .ok (.iload 6, 2) := by decide +kernel
theorem dX9_darned_154 : decode cX9_darned 154 = .ok (.imul, 1) := by decide +kernel
theorem dX9_darned_155 : decode cX9_darned 155 = .ok (.iload 5, 2) := by decide +kernel
theorem dX9_darned_157 : decode cX9_darned 157 = .ok (.iload_n 2, 1) := by decide +kernel
theorem dX9_darned_158 : decode cX9_darned 158 = .ok (.iload 7, 2) := by decide +kernel
theorem dX9_darned_160 : decode cX9_darned 160 = .ok (.invokestatic 158, 3) := by decide +kernel
theorem dX9_darned_163 : decode cX9_darned 163 = .ok (.iadd, 1) := by decide +kernel
theorem dX9_darned_164 : decode cX9_darned 164 = .ok (.istore 6, 2) := by decide +kernel
theorem dX9_darned_166 : decode cX9_darned 166 = .ok (.iinc 7 1, 3) := by decide +kernel
theorem dX9_darned_169 : decode cX9_darned 169 = .ok (.goto (-25), 3) := by decide +kernel
theorem dX9_darned_172 : decode cX9_darned 172 = .ok (.iload 6, 2) := by decide +kernel
theorem dX9_darned_174 : decode cX9_darned 174 = .ok (.ireturn, 1) := by decide +kernel
theorem dX9_threadOf_0 : decode cX9_threadOf 0 = .ok (.iload_n 0, 1) := by decide +kernel
theorem dX9_threadOf_1 : decode cX9_threadOf 1 = .ok (.istore_n 3, 1) := by decide +kernel
theorem dX9_threadOf_2 : decode cX9_threadOf 2 = .ok (.iload_n 1, 1) := by decide +kernel
theorem dX9_threadOf_3 : decode cX9_threadOf 3 = .ok (.iconst 1, 1) := by decide +kernel
theorem dX9_threadOf_4 : decode cX9_threadOf 4 = .ok (.isub, 1) := by decide +kernel
theorem dX9_threadOf_5 : decode cX9_threadOf 5 = .ok (.istore 4, 2) := by decide +kernel
theorem dX9_threadOf_7 : decode cX9_threadOf 7 = .ok (.iload 4, 2) := by decide +kernel
theorem dX9_threadOf_9 : decode cX9_threadOf 9 = .ok (.iload_n 2, 1) := by decide +kernel
theorem dX9_threadOf_10 : decode cX9_threadOf 10 = .ok (.if_icmp .le 13, 3) := by decide +kernel
theorem dX9_threadOf_13 : decode cX9_threadOf 13 = .ok (.iload_n 3, 1) := by decide +kernel
theorem dX9_threadOf_14 : decode cX9_threadOf 14 = .ok (.iconst 3, 1) := by decide +kernel
theorem dX9_threadOf_15 : decode cX9_threadOf 15 = .ok (.idiv, 1) := by decide +kernel
theorem dX9_threadOf_16 : decode cX9_threadOf 16 = .ok (.istore_n 3, 1) := by decide +kernel
theorem dX9_threadOf_17 : decode cX9_threadOf 17 = .ok (.iinc 4 (-1), 3) := by decide +kernel
theorem dX9_threadOf_20 : decode cX9_threadOf 20 = .ok (.goto (-13), 3) := by decide +kernel
theorem dX9_threadOf_23 : decode cX9_threadOf 23 = .ok (.iload_n 3, 1) := by decide +kernel
theorem dX9_threadOf_24 : decode cX9_threadOf 24 = .ok (.iconst 3, 1) := by decide +kernel
theorem dX9_threadOf_25 : decode cX9_threadOf 25 = .ok (.irem, 1) := by decide +kernel
theorem dX9_threadOf_26 : decode cX9_threadOf 26 = .ok (.iconst 1, 1) := by decide +kernel
theorem dX9_threadOf_27 : decode cX9_threadOf 27 = .ok (.iadd, 1) := by decide +kernel
theorem dX9_threadOf_28 : decode cX9_threadOf 28 = .ok (.ireturn, 1) := by decide +kernel
theorem dX9_canDarn_0 : decode cX9_canDarn 0 = .ok (.iconst 1, 1) := by decide +kernel
theorem dX9_canDarn_1 : decode cX9_canDarn 1 = .ok (.istore_n 3, 1) := by decide +kernel
theorem dX9_canDarn_2 : decode cX9_canDarn 2 = .ok (.iconst 0, 1) := by decide +kernel
theorem dX9_canDarn_3 : decode cX9_canDarn 3 = .ok (.istore 4, 2) := by decide +kernel
theorem dX9_canDarn_5 : decode cX9_canDarn 5 = .ok (.iload 4, 2) := by decide +kernel
theorem dX9_canDarn_7 : decode cX9_canDarn 7 = .ok (.iload_n 2, 1) := by decide +kernel
theorem dX9_canDarn_8 : decode cX9_canDarn 8 = .ok (.if_icmp .ge 133, 3) := by decide +kernel
theorem dX9_canDarn_11 : decode cX9_canDarn 11 = .ok (.iload_n 3, 1) := by decide +kernel
theorem dX9_canDarn_12 : decode cX9_canDarn 12 = .ok (.ifCond .eq 129, 3) := by decide +kernel
theorem dX9_canDarn_15 : decode cX9_canDarn 15 = .ok (.iload_n 1, 1) := by decide +kernel
theorem dX9_canDarn_16 : decode cX9_canDarn 16 = .ok (.iload_n 2, 1) := by decide +kernel
theorem dX9_canDarn_17 : decode cX9_canDarn 17 = .ok (.iload 4, 2) := by decide +kernel
theorem dX9_canDarn_19 : decode cX9_canDarn 19 = .ok (.invokestatic 158, 3) := by decide +kernel
theorem dX9_canDarn_22 : decode cX9_canDarn 22 = .ok (.istore 5, 2) := by decide +kernel
theorem dX9_canDarn_24 : decode cX9_canDarn 24 = .ok (.iconst 0, 1) := by decide +kernel
theorem dX9_canDarn_25 : decode cX9_canDarn 25 = .ok (.istore 6, 2) := by decide +kernel
theorem dX9_canDarn_27 : decode cX9_canDarn 27 = .ok (.iload 6, 2) := by decide +kernel
theorem dX9_canDarn_29 : decode cX9_canDarn 29 = .ok (.iconst 4, 1) := by decide +kernel
theorem dX9_canDarn_30 : decode cX9_canDarn 30 = .ok (.if_icmp .ge 105, 3) := by decide +kernel
theorem dX9_canDarn_33 : decode cX9_canDarn 33 = .ok (.aload_n 0, 1) := by decide +kernel
theorem dX9_canDarn_34 : decode cX9_canDarn 34 = .ok (.getfield 25, 3) := by decide +kernel
theorem dX9_canDarn_37 : decode cX9_canDarn 37 = .ok (.iload 4, 2) := by decide +kernel
theorem dX9_canDarn_39 : decode cX9_canDarn 39 = .ok (.iaload, 1) := by decide +kernel
theorem dX9_canDarn_40 : decode cX9_canDarn 40 = .ok (.iload 6, 2) := by decide +kernel
theorem dX9_canDarn_42 : decode cX9_canDarn 42 = .ok (.invokestatic 91, 3) := by decide +kernel
theorem dX9_canDarn_45 : decode cX9_canDarn 45 = .ok (.istore 7, 2) := by decide +kernel
theorem dX9_canDarn_47 : decode cX9_canDarn 47 = .ok (.iload_n 3, 1) := by decide +kernel
theorem dX9_canDarn_48 : decode cX9_canDarn 48 = .ok (.ifCond .eq 29, 3) := by decide +kernel
theorem dX9_canDarn_51 : decode cX9_canDarn 51 = .ok (.iload 7, 2) := by decide +kernel
theorem dX9_canDarn_53 : decode cX9_canDarn 53 = .ok (.ifCond .lt 20, 3) := by decide +kernel
theorem dX9_canDarn_56 : decode cX9_canDarn 56 = .ok (.iload 5, 2) := by decide +kernel
theorem dX9_canDarn_58 : decode cX9_canDarn 58 = .ok (.iconst 2, 1) := by decide +kernel
theorem dX9_canDarn_59 : decode cX9_canDarn 59 = .ok (.if_icmp .ne 14, 3) := by decide +kernel
theorem dX9_canDarn_62 : decode cX9_canDarn 62 = .ok (.aload_n 0, 1) := by decide +kernel
theorem dX9_canDarn_63 : decode cX9_canDarn 63 = .ok (.getfield 7, 3) := by decide +kernel
theorem dX9_canDarn_66 : decode cX9_canDarn 66 = .ok (.iload 7, 2) := by decide +kernel
theorem dX9_canDarn_68 : decode cX9_canDarn 68 = .ok (.iaload, 1) := by decide +kernel
theorem dX9_canDarn_69 : decode cX9_canDarn 69 = .ok (.iconst 4, 1) := by decide +kernel
theorem dX9_canDarn_70 : decode cX9_canDarn 70 = .ok (.if_icmp .eq 7, 3) := by decide +kernel
theorem dX9_canDarn_73 : decode cX9_canDarn 73 = .ok (.iconst 1, 1) := by decide +kernel
theorem dX9_canDarn_74 : decode cX9_canDarn 74 = .ok (.goto 4, 3) := by decide +kernel
theorem dX9_canDarn_77 : decode cX9_canDarn 77 = .ok (.iconst 0, 1) := by decide +kernel
theorem dX9_canDarn_78 : decode cX9_canDarn 78 = .ok (.istore_n 3, 1) := by decide +kernel
theorem dX9_canDarn_79 : decode cX9_canDarn 79 = .ok (.iconst 0, 1) := by decide +kernel
theorem dX9_canDarn_80 : decode cX9_canDarn 80 = .ok (.istore 8, 2) := by decide +kernel
theorem dX9_canDarn_82 : decode cX9_canDarn 82 = .ok (.iload 8, 2) := by decide +kernel
theorem dX9_canDarn_84 : decode cX9_canDarn 84 = .ok (.iload 4, 2) := by decide +kernel
theorem dX9_canDarn_86 : decode cX9_canDarn 86 = .ok (.if_icmp .ge 43, 3) := by decide +kernel
theorem dX9_canDarn_89 : decode cX9_canDarn 89 = .ok (.iload_n 3, 1) := by decide +kernel
theorem dX9_canDarn_90 : decode cX9_canDarn 90 = .ok (.ifCond .eq 31, 3) := by decide +kernel
theorem dX9_canDarn_93 : decode cX9_canDarn 93 = .ok (.aload_n 0, 1) := by decide +kernel
theorem dX9_canDarn_94 : decode cX9_canDarn 94 = .ok (.getfield 25, 3) := by decide +kernel
theorem dX9_canDarn_97 : decode cX9_canDarn 97 = .ok (.iload 8, 2) := by decide +kernel
theorem dX9_canDarn_99 : decode cX9_canDarn 99 = .ok (.iaload, 1) := by decide +kernel
theorem dX9_canDarn_100 : decode cX9_canDarn 100 = .ok (.iload 7, 2) := by decide +kernel
theorem dX9_canDarn_102 : decode cX9_canDarn 102 = .ok (.if_icmp .ne 15, 3) := by decide +kernel
theorem dX9_canDarn_105 : decode cX9_canDarn 105 = .ok (.iload_n 1, 1) := by decide +kernel
theorem dX9_canDarn_106 : decode cX9_canDarn 106 = .ok (.iload_n 2, 1) := by decide +kernel
theorem dX9_canDarn_107 : decode cX9_canDarn 107 = .ok (.iload 8, 2) := by decide +kernel
theorem dX9_canDarn_109 : decode cX9_canDarn 109 = .ok (.invokestatic 158, 3) := by decide +kernel
theorem dX9_canDarn_112 : decode cX9_canDarn 112 = .ok (.iload 5, 2) := by decide +kernel
theorem dX9_canDarn_114 : decode cX9_canDarn 114 = .ok (.if_icmp .eq 7, 3) := by decide +kernel
theorem dX9_canDarn_117 : decode cX9_canDarn 117 = .ok (.iconst 1, 1) := by decide +kernel
theorem dX9_canDarn_118 : decode cX9_canDarn 118 = .ok (.goto 4, 3) := by decide +kernel
theorem dX9_canDarn_121 : decode cX9_canDarn 121 = .ok (.iconst 0, 1) := by decide +kernel
theorem dX9_canDarn_122 : decode cX9_canDarn 122 = .ok (.istore_n 3, 1) := by decide +kernel
theorem dX9_canDarn_123 : decode cX9_canDarn 123 = .ok (.iinc 8 1, 3) := by decide +kernel
theorem dX9_canDarn_126 : decode cX9_canDarn 126 = .ok (.goto (-44), 3) := by decide +kernel
theorem dX9_canDarn_129 : decode cX9_canDarn 129 = .ok (.iinc 6 1, 3) := by decide +kernel
theorem dX9_canDarn_132 : decode cX9_canDarn 132 = .ok (.goto (-105), 3) := by decide +kernel
theorem dX9_canDarn_135 : decode cX9_canDarn 135 = .ok (.iinc 4 1, 3) := by decide +kernel
theorem dX9_canDarn_138 : decode cX9_canDarn 138 = .ok (.goto (-133), 3) := by decide +kernel
theorem dX9_canDarn_141 : decode cX9_canDarn 141 = .ok (.iload_n 3, 1) := by decide +kernel
theorem dX9_canDarn_142 : decode cX9_canDarn 142 = .ok (.ireturn, 1) := by decide +kernel
theorem dX9_sheet_0 : decode cX9_sheet 0 = .ok (.iload_n 1, 1) := by decide +kernel
theorem dX9_sheet_1 : decode cX9_sheet 1 = .ok (.iconst 0, 1) := by decide +kernel
theorem dX9_sheet_2 : decode cX9_sheet 2 = .ok (.sipush 5555, 3) := by decide +kernel
theorem dX9_sheet_5 : decode cX9_sheet 5 = .ok (.invokestatic 51, 3) := by decide +kernel
theorem dX9_sheet_8 : decode cX9_sheet 8 = .ok (.ifCond .eq 16, 3) := by decide +kernel
theorem dX9_sheet_11 : decode cX9_sheet 11 = .ok (.iload_n 2, 1) := by decide +kernel
theorem dX9_sheet_12 : decode cX9_sheet 12 = .ok (.iconst 0, 1) := by decide +kernel
theorem dX9_sheet_13 : decode cX9_sheet 13 = .ok (.iconst 1, 1) := by decide +kernel
theorem dX9_sheet_14 : decode cX9_sheet 14 = .ok (.invokestatic 51, 3) := by decide +kernel
theorem dX9_sheet_17 : decode cX9_sheet 17 = .ok (.ifCond .eq 7, 3) := by decide +kernel
theorem dX9_sheet_20 : decode cX9_sheet 20 = .ok (.iconst 1, 1) := by decide +kernel
theorem dX9_sheet_21 : decode cX9_sheet 21 = .ok (.goto 4, 3) := by decide +kernel
theorem dX9_sheet_24 : decode cX9_sheet 24 = .ok (.iconst 0, 1) := by decide +kernel
theorem dX9_sheet_25 : decode cX9_sheet 25 = .ok (.istore_n 3, 1) := by decide +kernel
theorem dX9_sheet_26 : decode cX9_sheet 26 = .ok (.iload_n 1, 1) := by decide +kernel
theorem dX9_sheet_27 : decode cX9_sheet 27 = .ok (.istore 4, 2) := by decide +kernel
theorem dX9_sheet_29 : decode cX9_sheet 29 = .ok (.iconst 0, 1) := by decide +kernel
theorem dX9_sheet_30 : decode cX9_sheet 30 = .ok (.istore 5, 2) := by decide +kernel
theorem dX9_sheet_32 : decode cX9_sheet 32 = .ok (.iload 5, 2) := by decide +kernel
theorem dX9_sheet_34 : decode cX9_sheet 34 = .ok (.iconst 4, 1) := by decide +kernel
theorem dX9_sheet_35 : decode cX9_sheet 35 = .ok (.if_icmp .ge 36, 3) := by decide +kernel
theorem dX9_sheet_38 : decode cX9_sheet 38 = .ok (.iload_n 3, 1) := by decide +kernel
theorem dX9_sheet_39 : decode cX9_sheet 39 = .ok (.ifCond .eq 17, 3) := by decide +kernel
theorem dX9_sheet_42 : decode cX9_sheet 42 = .ok (.iload 4, 2) := by decide +kernel
theorem dX9_sheet_44 : decode cX9_sheet 44 = .ok (.bipush 10, 2) := by decide +kernel
theorem dX9_sheet_46 : decode cX9_sheet 46 = .ok (.irem, 1) := by decide +kernel
theorem dX9_sheet_47 : decode cX9_sheet 47 = .ok (.bipush 6, 2) := by decide +kernel
theorem dX9_sheet_49 : decode cX9_sheet 49 = .ok (.if_icmp .ge 7, 3) := by decide +kernel
theorem dX9_sheet_52 : decode cX9_sheet 52 = .ok (.iconst 1, 1) := by decide +kernel
theorem dX9_sheet_53 : decode cX9_sheet 53 = .ok (.goto 4, 3) := by decide +kernel
theorem dX9_sheet_56 : decode cX9_sheet 56 = .ok (.iconst 0, 1) := by decide +kernel
theorem dX9_sheet_57 : decode cX9_sheet 57 = .ok (.istore_n 3, 1) := by decide +kernel
theorem dX9_sheet_58 : decode cX9_sheet 58 = .ok (.iload 4, 2) := by decide +kernel
theorem dX9_sheet_60 : decode cX9_sheet 60 = .ok (.bipush 10, 2) := by decide +kernel
theorem dX9_sheet_62 : decode cX9_sheet 62 = .ok (.idiv, 1) := by decide +kernel
theorem dX9_sheet_63 : decode cX9_sheet 63 = .ok (.istore 4, 2) := by decide +kernel
theorem dX9_sheet_65 : decode cX9_sheet 65 = .ok (.iinc 5 1, 3) := by decide +kernel
theorem dX9_sheet_68 : decode cX9_sheet 68 = .ok (.goto (-36), 3) := by decide +kernel
theorem dX9_sheet_71 : decode cX9_sheet 71 = .ok (.iload_n 3, 1) := by decide +kernel
theorem dX9_sheet_72 : decode cX9_sheet 72 = .ok (.ifCond .ne 6, 3) := by decide +kernel
theorem dX9_sheet_75 : decode cX9_sheet 75 = .ok (.bipush (-2), 2) := by decide +kernel
theorem dX9_sheet_77 : decode cX9_sheet 77 = .ok (.ireturn, 1) := by decide +kernel
theorem dX9_sheet_78 : decode cX9_sheet 78 = .ok (.iconst 0, 1) := by decide +kernel
theorem dX9_sheet_79 : decode cX9_sheet 79 = .ok (.istore 5, 2) := by decide +kernel
theorem dX9_sheet_81 : decode cX9_sheet 81 = .ok (.bipush (-6), 2) := by decide +kernel
theorem dX9_sheet_83 : decode cX9_sheet 83 = .ok (.istore 6, 2) := by decide +kernel
theorem dX9_sheet_85 : decode cX9_sheet 85 = .ok (.bipush 18, 2) := by decide +kernel
theorem dX9_sheet_87 : decode cX9_sheet 87 = .ok (.istore 7, 2) := by decide +kernel
theorem dX9_sheet_89 : decode cX9_sheet 89 = .ok (.iload 7, 2) := by decide +kernel
theorem dX9_sheet_91 : decode cX9_sheet 91 = .ok (.ifCond .lt 105, 3) := by decide +kernel
theorem dX9_sheet_94 : decode cX9_sheet 94 = .ok (.iload 7, 2) := by decide +kernel
theorem dX9_sheet_96 : decode cX9_sheet 96 = .ok (.iconst 5, 1) := by decide +kernel
theorem dX9_sheet_97 : decode cX9_sheet 97 = .ok (.irem, 1) := by decide +kernel
theorem dX9_sheet_98 : decode cX9_sheet 98 = .ok (.iconst 4, 1) := by decide +kernel
theorem dX9_sheet_99 : decode cX9_sheet 99 = .ok (.if_icmp .ge 59, 3) := by decide +kernel
theorem dX9_sheet_102 : decode cX9_sheet 102 = .ok (.sipush 1000, 3) := by decide +kernel
theorem dX9_sheet_105 : decode cX9_sheet 105 = .ok (.aload_n 0, 1) := by decide +kernel
theorem dX9_sheet_106 : decode cX9_sheet 106 = .ok (.getfield 7, 3) := by decide +kernel
theorem dX9_sheet_109 : decode cX9_sheet 109 = .ok (.iload 7, 2) := by decide +kernel
theorem dX9_sheet_111 : decode cX9_sheet 111 = .ok (.iaload, 1) := by decide +kernel
theorem dX9_sheet_112 : decode cX9_sheet 112 = .ok (.imul, 1) := by decide +kernel
theorem dX9_sheet_113 : decode cX9_sheet 113 = .ok (.bipush 100, 2) := by decide +kernel
theorem dX9_sheet_115 : decode cX9_sheet 115 = .ok (.aload_n 0, 1) := by decide +kernel
theorem dX9_sheet_116 : decode cX9_sheet 116 = .ok (.getfield 7, 3) := by decide +kernel
theorem dX9_sheet_119 : decode cX9_sheet 119 = .ok (.iload 7, 2) := by decide +kernel
theorem dX9_sheet_121 : decode cX9_sheet 121 = .ok (.iconst 1, 1) := by decide +kernel
theorem dX9_sheet_122 : decode cX9_sheet 122 = .ok (.iadd, 1) := by decide +kernel
theorem dX9_sheet_123 : decode cX9_sheet 123 = .ok (.iaload, 1) := by decide +kernel
theorem dX9_sheet_124 : decode cX9_sheet 124 = .ok (.imul, 1) := by decide +kernel
theorem dX9_sheet_125 : decode cX9_sheet 125 = .ok (.iadd, 1) := by decide +kernel
theorem dX9_sheet_126 : decode cX9_sheet 126 = .ok (.bipush 10, 2) := by decide +kernel
theorem dX9_sheet_128 : decode cX9_sheet 128 = .ok (.aload_n 0, 1) := by decide +kernel
theorem dX9_sheet_129 : decode cX9_sheet 129 = .ok (.getfield 7, 3) := by decide +kernel
theorem dX9_sheet_132 : decode cX9_sheet 132 = .ok (.iload 7, 2) := by decide +kernel
theorem dX9_sheet_134 : decode cX9_sheet 134 = .ok (.iconst 5, 1) := by decide +kernel
theorem dX9_sheet_135 : decode cX9_sheet 135 = .ok (.iadd, 1) := by decide +kernel
theorem dX9_sheet_136 : decode cX9_sheet 136 = .ok (.iaload, 1) := by decide +kernel
theorem dX9_sheet_137 : decode cX9_sheet 137 = .ok (.imul, 1) := by decide +kernel
theorem dX9_sheet_138 : decode cX9_sheet 138 = .ok (.iadd, 1) := by decide +kernel
theorem dX9_sheet_139 : decode cX9_sheet 139 = .ok (.aload_n 0, 1) := by decide +kernel
theorem dX9_sheet_140 : decode cX9_sheet 140 = .ok (.getfield 7, 3) := by decide +kernel
theorem dX9_sheet_143 : decode cX9_sheet 143 = .ok (.iload 7, 2) := by decide +kernel
theorem dX9_sheet_145 : decode cX9_sheet 145 = .ok (.bipush 6, 2) := by decide +kernel
theorem dX9_sheet_147 : decode cX9_sheet 147 = .ok (.iadd, 1) := by decide +kernel
theorem dX9_sheet_148 : decode cX9_sheet 148 = .ok (.iaload, 1) := by decide +kernel
theorem dX9_sheet_149 : decode cX9_sheet 149 = .ok (.iadd, 1) := by decide +kernel
theorem dX9_sheet_150 : decode cX9_sheet 150 = .ok (.iload_n 1, 1) := by decide +kernel
theorem dX9_sheet_151 : decode cX9_sheet 151 = .ok (.if_icmp .ne 7, 3) := by decide +kernel
theorem dX9_sheet_154 : decode cX9_sheet 154 = .ok (.iconst 1, 1) := by decide +kernel
theorem dX9_sheet_155 : decode cX9_sheet 155 = .ok (.goto 4, 3) := by decide +kernel
theorem dX9_sheet_158 : decode cX9_sheet 158 = .ok (.iconst 0, 1) := by decide +kernel
theorem dX9_sheet_159 : decode cX9_sheet 159 = .ok (.istore 8, 2) := by decide +kernel
theorem dX9_sheet_161 : decode cX9_sheet 161 = .ok (.iload 5, 2) := by decide +kernel
theorem dX9_sheet_163 : decode cX9_sheet 163 = .ok (.iload 8, 2) := by decide +kernel
theorem dX9_sheet_165 : decode cX9_sheet 165 = .ok (.ifCond .eq 7, 3) := by decide +kernel
theorem dX9_sheet_168 : decode cX9_sheet 168 = .ok (.iconst 1, 1) := by decide +kernel
theorem dX9_sheet_169 : decode cX9_sheet 169 = .ok (.goto 4, 3) := by decide +kernel
theorem dX9_sheet_172 : decode cX9_sheet 172 = .ok (.iconst 0, 1) := by decide +kernel
theorem dX9_sheet_173 : decode cX9_sheet 173 = .ok (.iadd, 1) := by decide +kernel
theorem dX9_sheet_174 : decode cX9_sheet 174 = .ok (.istore 5, 2) := by decide +kernel
theorem dX9_sheet_176 : decode cX9_sheet 176 = .ok (.iload 8, 2) := by decide +kernel
theorem dX9_sheet_178 : decode cX9_sheet 178 = .ok (.ifCond .eq 8, 3) := by decide +kernel
theorem dX9_sheet_181 : decode cX9_sheet 181 = .ok (.iload 7, 2) := by decide +kernel
theorem dX9_sheet_183 : decode cX9_sheet 183 = .ok (.goto 5, 3) := by decide +kernel
theorem dX9_sheet_186 : decode cX9_sheet 186 = .ok (.iload 6, 2) := by decide +kernel
theorem dX9_sheet_188 : decode cX9_sheet 188 = .ok (.istore 6, 2) := by decide +kernel
theorem dX9_sheet_190 : decode cX9_sheet 190 = .ok (.iinc 7 (-1), 3) := by decide +kernel
theorem dX9_sheet_193 : decode cX9_sheet 193 = .ok (.goto (-104), 3) := by decide +kernel
theorem dX9_sheet_196 : decode cX9_sheet 196 = .ok (.iload_n 2, 1) := by decide +kernel
theorem dX9_sheet_197 : decode cX9_sheet 197 = .ok (.ifCond .ne 8, 3) := by decide +kernel
theorem dX9_sheet_200 : decode cX9_sheet 200 = .ok (.iload 5, 2) := by decide +kernel
theorem dX9_sheet_202 : decode cX9_sheet 202 = .ok (.goto 5, 3) := by decide +kernel
theorem dX9_sheet_205 : decode cX9_sheet 205 = .ok (.iload 6, 2) := by decide +kernel
theorem dX9_sheet_207 : decode cX9_sheet 207 = .ok (.ireturn, 1) := by decide +kernel
theorem dX9_seen_0 : decode cX9_seen 0 = .ok (.iload_n 2, 1) := by decide +kernel
theorem dX9_seen_1 : decode cX9_seen 1 = .ok (.invokestatic 59, 3) := by decide +kernel
theorem dX9_seen_4 : decode cX9_seen 4 = .ok (.ifCond .ne 5, 3) := by decide +kernel
theorem dX9_seen_7 : decode cX9_seen 7 = .ok (.iconst (-1), 1) := by decide +kernel
theorem dX9_seen_8 : decode cX9_seen 8 = .ok (.ireturn, 1) := by decide +kernel
theorem dX9_seen_9 : decode cX9_seen 9 = .ok (.iload_n 1, 1) := by decide +kernel
theorem dX9_seen_10 : decode cX9_seen 10 = .ok (.iconst 0, 1) := by decide +kernel
theorem dX9_seen_11 : decode cX9_seen 11 = .ok (.bipush 40, 2) := by decide +kernel
theorem dX9_seen_13 : decode cX9_seen 13 = .ok (.invokestatic 51, 3) := by decide +kernel
theorem dX9_seen_16 : decode cX9_seen 16 = .ok (.ifCond .ne 6, 3) := by decide +kernel
theorem dX9_seen_19 : decode cX9_seen 19 = .ok (.bipush (-2), 2) := by decide +kernel
theorem dX9_seen_21 : decode cX9_seen 21 = .ok (.ireturn, 1) := by decide +kernel
theorem dX9_seen_22 : decode cX9_seen 22 = .ok (.aload_n 0, 1) := by decide +kernel
theorem dX9_seen_23 : decode cX9_seen 23 = .ok (.getfield 161, 3) := by decide +kernel
theorem dX9_seen_26 : decode cX9_seen 26 = .ok (.bipush 8, 2) := by decide +kernel
theorem dX9_seen_28 : decode cX9_seen 28 = .ok (.if_icmp .ne 6, 3) := by decide +kernel
theorem dX9_seen_31 : decode cX9_seen 31 = .ok (.bipush (-4), 2) := by decide +kernel
theorem dX9_seen_33 : decode cX9_seen 33 = .ok (.ireturn, 1) := by decide +kernel
theorem dX9_seen_34 : decode cX9_seen 34 = .ok (.aload_n 0, 1) := by decide +kernel
theorem dX9_seen_35 : decode cX9_seen 35 = .ok (.getfield 16, 3) := by decide +kernel
theorem dX9_seen_38 : decode cX9_seen 38 = .ok (.iconst 2, 1) := by decide +kernel
theorem dX9_seen_39 : decode cX9_seen 39 = .ok (.aload_n 0, 1) := by decide +kernel
theorem dX9_seen_40 : decode cX9_seen 40 = .ok (.getfield 161, 3) := by decide +kernel
theorem dX9_seen_43 : decode cX9_seen 43 = .ok (.imul, 1) := by decide +kernel
theorem dX9_seen_44 : decode cX9_seen 44 = .ok (.iload_n 1, 1) := by decide +kernel
theorem dX9_seen_45 : decode cX9_seen 45 = .ok (.iastore, 1) := by decide +kernel
theorem dX9_seen_46 : decode cX9_seen 46 = .ok (.aload_n 0, 1) := by decide +kernel
theorem dX9_seen_47 : decode cX9_seen 47 = .ok (.getfield 16, 3) := by decide +kernel
theorem dX9_seen_50 : decode cX9_seen 50 = .ok (.iconst 2, 1) := by decide +kernel
theorem dX9_seen_51 : decode cX9_seen 51 = .ok (.aload_n 0, 1) := by decide +kernel
theorem dX9_seen_52 : decode cX9_seen 52 = .ok (.getfield 161, 3) := by decide +kernel
theorem dX9_seen_55 : decode cX9_seen 55 = .ok (.imul, 1) := by decide +kernel
theorem dX9_seen_56 : decode cX9_seen 56 = .ok (.iconst 1, 1) := by decide +kernel
theorem dX9_seen_57 : decode cX9_seen 57 = .ok (.iadd, 1) := by decide +kernel
theorem dX9_seen_58 : decode cX9_seen 58 = .ok (.iload_n 2, 1) := by decide +kernel
theorem dX9_seen_59 : decode cX9_seen 59 = .ok (.iastore, 1) := by decide +kernel
theorem dX9_seen_60 : decode cX9_seen 60 = .ok (.aload_n 0, 1) := by decide +kernel
theorem dX9_seen_61 : decode cX9_seen 61 = .ok (.dup, 1) := by decide +kernel
theorem dX9_seen_62 : decode cX9_seen 62 = .ok (.getfield 161, 3) := by decide +kernel
theorem dX9_seen_65 : decode cX9_seen 65 = .ok (.iconst 1, 1) := by decide +kernel
theorem dX9_seen_66 : decode cX9_seen 66 = .ok (.iadd, 1) := by decide +kernel
theorem dX9_seen_67 : decode cX9_seen 67 = .ok (.putfield 161, 3) := by decide +kernel
theorem dX9_seen_70 : decode cX9_seen 70 = .ok (.aload_n 0, 1) := by decide +kernel
theorem dX9_seen_71 : decode cX9_seen 71 = .ok (.getfield 161, 3) := by decide +kernel
theorem dX9_seen_74 : decode cX9_seen 74 = .ok (.ireturn, 1) := by decide +kernel
theorem dX9_forget_0 : decode cX9_forget 0 = .ok (.aload_n 0, 1) := by decide +kernel
theorem dX9_forget_1 : decode cX9_forget 1 = .ok (.getfield 161, 3) := by decide +kernel
theorem dX9_forget_4 : decode cX9_forget 4 = .ok (.istore_n 1, 1) := by decide +kernel
theorem dX9_forget_5 : decode cX9_forget 5 = .ok (.aload_n 0, 1) := by decide +kernel
theorem dX9_forget_6 : decode cX9_forget 6 = .ok (.iconst 0, 1) := by decide +kernel
theorem dX9_forget_7 : decode cX9_forget 7 = .ok (.putfield 161, 3) := by decide +kernel
theorem dX9_forget_10 : decode cX9_forget 10 = .ok (.iload_n 1, 1) := by decide +kernel
theorem dX9_forget_11 : decode cX9_forget 11 = .ok (.ireturn, 1) := by decide +kernel
theorem dX9_cellAfter_0 : decode cX9_cellAfter 0 = .ok (.iload_n 0, 1) := by decide +kernel
theorem dX9_cellAfter_1 : decode cX9_cellAfter 1 = .ok (.bipush 10, 2) := by decide +kernel
theorem dX9_cellAfter_3 : decode cX9_cellAfter 3 = .ok (.idiv, 1) := by decide +kernel
theorem dX9_cellAfter_4 : decode cX9_cellAfter 4 = .ok (.istore_n 2, 1) := by decide +kernel
theorem dX9_cellAfter_5 : decode cX9_cellAfter 5 = .ok (.iload_n 0, 1) := by decide +kernel
theorem dX9_cellAfter_6 : decode cX9_cellAfter 6 = .ok (.bipush 10, 2) := by decide +kernel
theorem dX9_cellAfter_8 : decode cX9_cellAfter 8 = .ok (.irem, 1) := by decide +kernel
theorem dX9_cellAfter_9 : decode cX9_cellAfter 9 = .ok (.istore_n 3, 1) := by decide +kernel
theorem dX9_cellAfter_10 : decode cX9_cellAfter 10 = .ok (.iconst 0, 1) := by decide +kernel
theorem dX9_cellAfter_11 : decode cX9_cellAfter 11 = .ok (.istore 4, 2) := by decide +kernel
theorem dX9_cellAfter_13 : decode cX9_cellAfter 13 = .ok (.iload 4, 2) := by decide +kernel
theorem dX9_cellAfter_15 : decode cX9_cellAfter 15 = .ok (.iload_n 1, 1) := by decide +kernel
theorem dX9_cellAfter_16 : decode cX9_cellAfter 16 = .ok (.if_icmp .ge 32, 3) := by decide +kernel
theorem dX9_cellAfter_19 : decode cX9_cellAfter 19 = .ok (.iload_n 2, 1) := by decide +kernel
theorem dX9_cellAfter_20 : decode cX9_cellAfter 20 = .ok (.iload_n 3, 1) := by decide +kernel
theorem dX9_cellAfter_21 : decode cX9_cellAfter 21 = .ok (.invokestatic 91, 3) := by decide +kernel
theorem dX9_cellAfter_24 : decode cX9_cellAfter 24 = .ok (.ifCond .ge 12, 3) := by decide +kernel
theorem dX9_cellAfter_27 : decode cX9_cellAfter 27 = .ok (.iload_n 3, 1) := by decide +kernel
theorem dX9_cellAfter_28 : decode cX9_cellAfter 28 = .ok (.iconst 1, 1) := by decide +kernel
theorem dX9_cellAfter_29 : decode cX9_cellAfter 29 = .ok (.iadd, 1) := by decide +kernel
theorem dX9_cellAfter_30 : decode cX9_cellAfter 30 = .ok (.iconst 4, 1) := by decide +kernel
theorem dX9_cellAfter_31 : decode cX9_cellAfter 31 = .ok (.irem, 1) := by decide +kernel
theorem dX9_cellAfter_32 : decode cX9_cellAfter 32 = .ok (.istore_n 3, 1) := by decide +kernel
theorem dX9_cellAfter_33 : decode cX9_cellAfter 33 = .ok (.goto (-14), 3) := by decide +kernel
theorem dX9_cellAfter_36 : decode cX9_cellAfter 36 = .ok (.iload_n 2, 1) := by decide +kernel
theorem dX9_cellAfter_37 : decode cX9_cellAfter 37 = .ok (.iload_n 3, 1) := by decide +kernel
theorem dX9_cellAfter_38 : decode cX9_cellAfter 38 = .ok (.invokestatic 91, 3) := by decide +kernel
theorem dX9_cellAfter_41 : decode cX9_cellAfter 41 = .ok (.istore_n 2, 1) := by decide +kernel
theorem dX9_cellAfter_42 : decode cX9_cellAfter 42 = .ok (.iinc 4 1, 3) := by decide +kernel
theorem dX9_cellAfter_45 : decode cX9_cellAfter 45 = .ok (.goto (-32), 3) := by decide +kernel
theorem dX9_cellAfter_48 : decode cX9_cellAfter 48 = .ok (.iload_n 2, 1) := by decide +kernel
theorem dX9_cellAfter_49 : decode cX9_cellAfter 49 = .ok (.ireturn, 1) := by decide +kernel
theorem dX9_isFit_0 : decode cX9_isFit 0 = .ok (.iload_n 1, 1) := by decide +kernel
theorem dX9_isFit_1 : decode cX9_isFit 1 = .ok (.bipush 10, 2) := by decide +kernel
theorem dX9_isFit_3 : decode cX9_isFit 3 = .ok (.irem, 1) := by decide +kernel
theorem dX9_isFit_4 : decode cX9_isFit 4 = .ok (.iconst 4, 1) := by decide +kernel
theorem dX9_isFit_5 : decode cX9_isFit 5 = .ok (.if_icmp .ge 7, 3) := by decide +kernel
theorem dX9_isFit_8 : decode cX9_isFit 8 = .ok (.iconst 1, 1) := by decide +kernel
theorem dX9_isFit_9 : decode cX9_isFit 9 = .ok (.goto 4, 3) := by decide +kernel
theorem dX9_isFit_12 : decode cX9_isFit 12 = .ok (.iconst 0, 1) := by decide +kernel
theorem dX9_isFit_13 : decode cX9_isFit 13 = .ok (.istore_n 2, 1) := by decide +kernel
theorem dX9_isFit_14 : decode cX9_isFit 14 = .ok (.iconst 0, 1) := by decide +kernel
theorem dX9_isFit_15 : decode cX9_isFit 15 = .ok (.istore_n 3, 1) := by decide +kernel
theorem dX9_isFit_16 : decode cX9_isFit 16 = .ok (.iload_n 3, 1) := by decide +kernel
theorem dX9_isFit_17 : decode cX9_isFit 17 = .ok (.aload_n 0, 1) := by decide +kernel
theorem dX9_isFit_18 : decode cX9_isFit 18 = .ok (.getfield 161, 3) := by decide +kernel
theorem dX9_isFit_21 : decode cX9_isFit 21 = .ok (.if_icmp .ge 44, 3) := by decide +kernel
theorem dX9_isFit_24 : decode cX9_isFit 24 = .ok (.iload_n 2, 1) := by decide +kernel
theorem dX9_isFit_25 : decode cX9_isFit 25 = .ok (.ifCond .eq 40, 3) := by decide +kernel
theorem dX9_isFit_28 : decode cX9_isFit 28 = .ok (.iload_n 1, 1) := by decide +kernel
theorem dX9_isFit_29 : decode cX9_isFit 29 = .ok (.aload_n 0, 1) := by decide +kernel
theorem dX9_isFit_30 : decode cX9_isFit 30 = .ok (.getfield 16, 3) := by decide +kernel
theorem dX9_isFit_33 : decode cX9_isFit 33 = .ok (.iconst 2, 1) := by decide +kernel
theorem dX9_isFit_34 : decode cX9_isFit 34 = .ok (.iload_n 3, 1) := by decide +kernel
theorem dX9_isFit_35 : decode cX9_isFit 35 = .ok (.imul, 1) := by decide +kernel
theorem dX9_isFit_36 : decode cX9_isFit 36 = .ok (.iaload, 1) := by decide +kernel
theorem dX9_isFit_37 : decode cX9_isFit 37 = .ok (.invokestatic 164, 3) := by decide +kernel
theorem dX9_isFit_40 : decode cX9_isFit 40 = .ok (.aload_n 0, 1) := by decide +kernel
theorem dX9_isFit_41 : decode cX9_isFit 41 = .ok (.getfield 16, 3) := by decide +kernel
theorem dX9_isFit_44 : decode cX9_isFit 44 = .ok (.iconst 2, 1) := by decide +kernel
theorem dX9_isFit_45 : decode cX9_isFit 45 = .ok (.iload_n 3, 1) := by decide +kernel
theorem dX9_isFit_46 : decode cX9_isFit 46 = .ok (.imul, 1) := by decide +kernel
theorem dX9_isFit_47 : decode cX9_isFit 47 = .ok (.iconst 1, 1) := by decide +kernel
theorem dX9_isFit_48 : decode cX9_isFit 48 = .ok (.iadd, 1) := by decide +kernel
theorem dX9_isFit_49 : decode cX9_isFit 49 = .ok (.iaload, 1) := by decide +kernel
theorem dX9_isFit_50 : decode cX9_isFit 50 = .ok (.if_icmp .ne 7, 3) := by decide +kernel
theorem dX9_isFit_53 : decode cX9_isFit 53 = .ok (.iconst 1, 1) := by decide +kernel
theorem dX9_isFit_54 : decode cX9_isFit 54 = .ok (.goto 4, 3) := by decide +kernel
theorem dX9_isFit_57 : decode cX9_isFit 57 = .ok (.iconst 0, 1) := by decide +kernel
theorem dX9_isFit_58 : decode cX9_isFit 58 = .ok (.istore_n 2, 1) := by decide +kernel
theorem dX9_isFit_59 : decode cX9_isFit 59 = .ok (.iinc 3 1, 3) := by decide +kernel
theorem dX9_isFit_62 : decode cX9_isFit 62 = .ok (.goto (-46), 3) := by decide +kernel
theorem dX9_isFit_65 : decode cX9_isFit 65 = .ok (.iload_n 2, 1) := by decide +kernel
theorem dX9_isFit_66 : decode cX9_isFit 66 = .ok (.ireturn, 1) := by decide +kernel
theorem dX9_began_0 : decode cX9_began 0 = .ok (.iconst 0, 1) := by decide +kernel
theorem dX9_began_1 : decode cX9_began 1 = .ok (.istore_n 2, 1) := by decide +kernel
theorem dX9_began_2 : decode cX9_began 2 = .ok (.iconst 0, 1) := by decide +kernel
theorem dX9_began_3 : decode cX9_began 3 = .ok (.istore_n 3, 1) := by decide +kernel
theorem dX9_began_4 : decode cX9_began 4 = .ok (.iload_n 3, 1) := by decide +kernel
theorem dX9_began_5 : decode cX9_began 5 = .ok (.sipush 250, 3) := by decide +kernel
theorem dX9_began_8 : decode cX9_began 8 = .ok (.if_icmp .ge 27, 3) := by decide +kernel
theorem dX9_began_11 : decode cX9_began 11 = .ok (.aload_n 0, 1) := by decide +kernel
theorem dX9_began_12 : decode cX9_began 12 = .ok (.iload_n 3, 1) := by decide +kernel
theorem dX9_began_13 : decode cX9_began 13 = .ok (.invokevirtual 167, 3) := by decide +kernel
theorem dX9_began_16 : decode cX9_began 16 = .ok (.ifCond .eq 13, 3) := by decide +kernel
theorem dX9_began_19 : decode cX9_began 19 = .ok (.iload_n 2, 1) := by decide +kernel
theorem dX9_began_20 : decode cX9_began 20 = .ok (.iload_n 1, 1) := by decide +kernel
theorem dX9_began_21 : decode cX9_began 21 = .ok (.if_icmp .ne 5, 3) := by decide +kernel
theorem dX9_began_24 : decode cX9_began 24 = .ok (.iload_n 3, 1) := by decide +kernel
theorem dX9_began_25 : decode cX9_began 25 = .ok (.ireturn, 1) := by decide +kernel
theorem dX9_began_26 : decode cX9_began 26 = .ok (.iinc 2 1, 3) := by decide +kernel
theorem dX9_began_29 : decode cX9_began 29 = .ok (.iinc 3 1, 3) := by decide +kernel
theorem dX9_began_32 : decode cX9_began 32 = .ok (.goto (-28), 3) := by decide +kernel
theorem dX9_began_35 : decode cX9_began 35 = .ok (.iload_n 1, 1) := by decide +kernel
theorem dX9_began_36 : decode cX9_began 36 = .ok (.iconst (-1), 1) := by decide +kernel
theorem dX9_began_37 : decode cX9_began 37 = .ok (.if_icmp .ne 7, 3) := by decide +kernel
theorem dX9_began_40 : decode cX9_began 40 = .ok (.iload_n 2, 1) := by decide +kernel
theorem dX9_began_41 : decode cX9_began 41 = .ok (.goto 5, 3) := by decide +kernel
theorem dX9_began_44 : decode cX9_began 44 = .ok (.bipush (-6), 2) := by decide +kernel
theorem dX9_began_46 : decode cX9_began 46 = .ok (.ireturn, 1) := by decide +kernel
theorem dX9_ask_0 : decode cX9_ask 0 = .ok (.iload_n 1, 1) := by decide +kernel
theorem dX9_ask_1 : decode cX9_ask 1 = .ok (.iconst 0, 1) := by decide +kernel
theorem dX9_ask_2 : decode cX9_ask 2 = .ok (.iconst 1, 1) := by decide +kernel
theorem dX9_ask_3 : decode cX9_ask 3 = .ok (.invokestatic 51, 3) := by decide +kernel
theorem dX9_ask_6 : decode cX9_ask 6 = .ok (.ifCond .ne 6, 3) := by decide +kernel
theorem dX9_ask_9 : decode cX9_ask 9 = .ok (.bipush (-2), 2) := by decide +kernel
theorem dX9_ask_11 : decode cX9_ask 11 = .ok (.ireturn, 1) := by decide +kernel
theorem dX9_ask_12 : decode cX9_ask 12 = .ok (.bipush (-6), 2) := by decide +kernel
theorem dX9_ask_14 : decode cX9_ask 14 = .ok (.istore_n 2, 1) := by decide +kernel
theorem dX9_ask_15 : decode cX9_ask 15 = .ok (.ldc 140, 2) := by decide +kernel
theorem dX9_ask_17 : decode cX9_ask 17 = .ok (.istore_n 3, 1) := by decide +kernel
theorem dX9_ask_18 : decode cX9_ask 18 = .ok (.iconst 0, 1) := by decide +kernel
theorem dX9_ask_19 : decode cX9_ask 19 = .ok (.istore 4, 2) := by decide +kernel
theorem dX9_ask_21 : decode cX9_ask 21 = .ok (.iload 4, 2) := by decide +kernel
theorem dX9_ask_23 : decode cX9_ask 23 = .ok (.bipush 41, 2) := by decide +kernel
theorem dX9_ask_25 : decode cX9_ask 25 = .ok (.if_icmp .ge 150, 3) := by decide +kernel
theorem dX9_ask_28 : decode cX9_ask 28 = .ok (.iconst 0, 1) := by decide +kernel
theorem dX9_ask_29 : decode cX9_ask 29 = .ok (.istore 5, 2) := by decide +kernel
theorem dX9_ask_31 : decode cX9_ask 31 = .ok (.iconst 0, 1) := by decide +kernel
theorem dX9_ask_32 : decode cX9_ask 32 = .ok (.istore 6, 2) := by decide +kernel
theorem dX9_ask_34 : decode cX9_ask 34 = .ok (.iload 6, 2) := by decide +kernel
theorem dX9_ask_36 : decode cX9_ask 36 = .ok (.bipush 25, 2) := by decide +kernel
theorem dX9_ask_38 : decode cX9_ask 38 = .ok (.if_icmp .ge 17, 3) := by decide +kernel
theorem dX9_ask_41 : decode cX9_ask 41 = .ok (.aload_n 0, 1) := by decide +kernel
theorem dX9_ask_42 : decode cX9_ask 42 = .ok (.getfield 28, 3) := by decide +kernel
theorem dX9_ask_45 : decode cX9_ask 45 = .ok (.iload 6, 2) := by decide +kernel
theorem dX9_ask_47 : decode cX9_ask 47 = .ok (.iconst 0, 1) := by decide +kernel
theorem dX9_ask_48 : decode cX9_ask 48 = .ok (.iastore, 1) := by decide +kernel
theorem dX9_ask_49 : decode cX9_ask 49 = .ok (.iinc 6 1, 3) := by decide +kernel
theorem dX9_ask_52 : decode cX9_ask 52 = .ok (.goto (-18), 3) := by decide +kernel
theorem dX9_ask_55 : decode cX9_ask 55 = .ok (.iconst 0, 1) := by decide +kernel
theorem dX9_ask_56 : decode cX9_ask 56 = .ok (.istore 6, 2) := by decide +kernel
theorem dX9_ask_58 : decode cX9_ask 58 = .ok (.iload 6, 2) := by decide +kernel
theorem dX9_ask_60 : decode cX9_ask 60 = .ok (.sipush 250, 3) := by decide +kernel
theorem dX9_ask_63 : decode cX9_ask 63 = .ok (.if_icmp .ge 64, 3) := by decide +kernel
theorem dX9_ask_66 : decode cX9_ask 66 = .ok (.aload_n 0, 1) := by decide +kernel
theorem dX9_ask_67 : decode cX9_ask 67 = .ok (.iload 6, 2) := by decide +kernel
theorem dX9_ask_69 : decode cX9_ask 69 = .ok (.invokevirtual 167, 3) := by decide +kernel
theorem dX9_ask_72 : decode cX9_ask 72 = .ok (.ifCond .eq 49, 3) := by decide +kernel
theorem dX9_ask_75 : decode cX9_ask 75 = .ok (.iload 6, 2) := by decide +kernel
theorem dX9_ask_77 : decode cX9_ask 77 = .ok (.iload 4, 2) := by decide +kernel
theorem dX9_ask_79 : decode cX9_ask 79 = .ok (.invokestatic 164, 3) := by decide +kernel
theorem dX9_ask_82 : decode cX9_ask 82 = .ok (.istore 7, 2) := by decide +kernel
theorem dX9_ask_84 : decode cX9_ask 84 = .ok (.aload_n 0, 1) := by decide +kernel
theorem dX9_ask_85 : decode cX9_ask 85 = .ok (.getfield 28, 3) := by decide +kernel
theorem dX9_ask_88 : decode cX9_ask 88 = .ok (.iload 7, 2) := by decide +kernel
theorem dX9_ask_90 : decode cX9_ask 90 = .ok (.dup2, 1) := by decide +kernel
theorem dX9_ask_91 : decode cX9_ask 91 = .ok (.iaload, 1) := by decide +kernel
theorem dX9_ask_92 : decode cX9_ask 92 = .ok (.iconst 1, 1) := by decide +kernel
theorem dX9_ask_93 : decode cX9_ask 93 = .ok (.iadd, 1) := by decide +kernel
theorem dX9_ask_94 : decode cX9_ask 94 = .ok (.iastore, 1) := by decide +kernel
theorem dX9_ask_95 : decode cX9_ask 95 = .ok (.aload_n 0, 1) := by decide +kernel
theorem dX9_ask_96 : decode cX9_ask 96 = .ok (.getfield 28, 3) := by decide +kernel
theorem dX9_ask_99 : decode cX9_ask 99 = .ok (.iload 7, 2) := by decide +kernel
theorem dX9_ask_101 : decode cX9_ask 101 = .ok (.iaload, 1) := by decide +kernel
theorem dX9_ask_102 : decode cX9_ask 102 = .ok (.iload 5, 2) := by decide +kernel
theorem dX9_ask_104 : decode cX9_ask 104 = .ok (.if_icmp .le 13, 3) := by decide +kernel
theorem dX9_ask_107 : decode cX9_ask 107 = .ok (.aload_n 0, 1) := by decide +kernel
theorem dX9_ask_108 : decode cX9_ask 108 = .ok (.getfield 28, 3) := by decide +kernel
theorem dX9_ask_111 : decode cX9_ask 111 = .ok (.iload 7, 2) := by decide +kernel
theorem dX9_ask_113 : decode cX9_ask 113 = .ok (.iaload, 1) := by decide +kernel
theorem dX9_ask_114 : decode cX9_ask 114 = .ok (.goto 5, 3) := by decide +kernel
theorem dX9_ask_117 : decode cX9_ask 117 = .ok (.iload 5, 2) := by decide +kernel
theorem dX9_ask_119 : decode cX9_ask 119 = .ok (.istore 5, 2) := by decide +kernel
theorem dX9_ask_121 : decode cX9_ask 121 = .ok (.iinc 6 1, 3) := by decide +kernel
theorem dX9_ask_124 : decode cX9_ask 124 = .ok (.goto (-66), 3) := by decide +kernel
theorem dX9_ask_127 : decode cX9_ask 127 = .ok (.iload 5, 2) := by decide +kernel
theorem dX9_ask_129 : decode cX9_ask 129 = .ok (.ifCond .le 13, 3) := by decide +kernel
theorem dX9_ask_132 : decode cX9_ask 132 = .ok (.iload 5, 2) := by decide +kernel
theorem dX9_ask_134 : decode cX9_ask 134 = .ok (.iload_n 3, 1) := by decide +kernel
theorem dX9_ask_135 : decode cX9_ask 135 = .ok (.if_icmp .ge 7, 3) := by decide +kernel
theorem dX9_ask_138 : decode cX9_ask 138 = .ok (.iconst 1, 1) := by decide +kernel
theorem dX9_ask_139 : decode cX9_ask 139 = .ok (.goto 4, 3) := by decide +kernel
theorem dX9_ask_142 : decode cX9_ask 142 = .ok (.iconst 0, 1) := by decide +kernel
theorem dX9_ask_143 : decode cX9_ask 143 = .ok (.istore 6, 2) := by decide +kernel
theorem dX9_ask_145 : decode cX9_ask 145 = .ok (.iload 6, 2) := by decide +kernel
theorem dX9_ask_147 : decode cX9_ask 147 = .ok (.ifCond .eq 8, 3) := by decide +kernel
theorem dX9_ask_150 : decode cX9_ask 150 = .ok (.iload 4, 2) := by decide +kernel
theorem dX9_ask_152 : decode cX9_ask 152 = .ok (.goto 4, 3) := by decide +kernel
theorem dX9_ask_155 : decode cX9_ask 155 = .ok (.iload_n 2, 1) := by decide +kernel
theorem dX9_ask_156 : decode cX9_ask 156 = .ok (.istore_n 2, 1) := by decide +kernel
theorem dX9_ask_157 : decode cX9_ask 157 = .ok (.iload 6, 2) := by decide +kernel
theorem dX9_ask_159 : decode cX9_ask 159 = .ok (.ifCond .eq 8, 3) := by decide +kernel
theorem dX9_ask_162 : decode cX9_ask 162 = .ok (.iload 5, 2) := by decide +kernel
theorem dX9_ask_164 : decode cX9_ask 164 = .ok (.goto 4, 3) := by decide +kernel
theorem dX9_ask_167 : decode cX9_ask 167 = .ok (.iload_n 3, 1) := by decide +kernel
theorem dX9_ask_168 : decode cX9_ask 168 = .ok (.istore_n 3, 1) := by decide +kernel
theorem dX9_ask_169 : decode cX9_ask 169 = .ok (.iinc 4 1, 3) := by decide +kernel
theorem dX9_ask_172 : decode cX9_ask 172 = .ok (.goto (-151), 3) := by decide +kernel
theorem dX9_ask_175 : decode cX9_ask 175 = .ok (.iload_n 2, 1) := by decide +kernel
theorem dX9_ask_176 : decode cX9_ask 176 = .ok (.ifCond .lt 7, 3) := by decide +kernel
theorem dX9_ask_179 : decode cX9_ask 179 = .ok (.iload_n 1, 1) := by decide +kernel
theorem dX9_ask_180 : decode cX9_ask 180 = .ok (.ifCond .ne 7, 3) := by decide +kernel
theorem dX9_ask_183 : decode cX9_ask 183 = .ok (.iload_n 2, 1) := by decide +kernel
theorem dX9_ask_184 : decode cX9_ask 184 = .ok (.goto 4, 3) := by decide +kernel
theorem dX9_ask_187 : decode cX9_ask 187 = .ok (.iload_n 3, 1) := by decide +kernel
theorem dX9_ask_188 : decode cX9_ask 188 = .ok (.ireturn, 1) := by decide +kernel
theorem dX9_folds_0 : decode cX9_folds 0 = .ok (.iload_n 1, 1) := by decide +kernel
theorem dX9_folds_1 : decode cX9_folds 1 = .ok (.iconst 0, 1) := by decide +kernel
theorem dX9_folds_2 : decode cX9_folds 2 = .ok (.bipush 60, 2) := by decide +kernel
theorem dX9_folds_4 : decode cX9_folds 4 = .ok (.invokestatic 51, 3) := by decide +kernel
theorem dX9_folds_7 : decode cX9_folds 7 = .ok (.ifCond .eq 12, 3) := by decide +kernel
theorem dX9_folds_10 : decode cX9_folds 10 = .ok (.iload_n 2, 1) := by decide +kernel
theorem dX9_folds_11 : decode cX9_folds 11 = .ok (.iconst 0, 1) := by decide +kernel
theorem dX9_folds_12 : decode cX9_folds 12 = .ok (.iconst 1, 1) := by decide +kernel
theorem dX9_folds_13 : decode cX9_folds 13 = .ok (.invokestatic 51, 3) := by decide +kernel
theorem dX9_folds_16 : decode cX9_folds 16 = .ok (.ifCond .ne 6, 3) := by decide +kernel
theorem dX9_folds_19 : decode cX9_folds 19 = .ok (.bipush (-2), 2) := by decide +kernel
theorem dX9_folds_21 : decode cX9_folds 21 = .ok (.ireturn, 1) := by decide +kernel
theorem dX9_folds_22 : decode cX9_folds 22 = .ok (.iconst 0, 1) := by decide +kernel
theorem dX9_folds_23 : decode cX9_folds 23 = .ok (.istore_n 3, 1) := by decide +kernel
theorem dX9_folds_24 : decode cX9_folds 24 = .ok (.iload_n 3, 1) := by decide +kernel
theorem dX9_folds_25 : decode cX9_folds 25 = .ok (.iload_n 1, 1) := by decide +kernel
theorem dX9_folds_26 : decode cX9_folds 26 = .ok (.if_icmp .gt 108, 3) := by decide +kernel
theorem dX9_folds_29 : decode cX9_folds 29 = .ok (.iconst 0, 1) := by decide +kernel
theorem dX9_folds_30 : decode cX9_folds 30 = .ok (.istore 4, 2) := by decide +kernel
theorem dX9_folds_32 : decode cX9_folds 32 = .ok (.iload 4, 2) := by decide +kernel
theorem dX9_folds_34 : decode cX9_folds 34 = .ok (.bipush 64, 2) := by decide +kernel
theorem dX9_folds_36 : decode cX9_folds 36 = .ok (.if_icmp .ge 17, 3) := by decide +kernel
theorem dX9_folds_39 : decode cX9_folds 39 = .ok (.aload_n 0, 1) := by decide +kernel
theorem dX9_folds_40 : decode cX9_folds 40 = .ok (.getfield 34, 3) := by decide +kernel
theorem dX9_folds_43 : decode cX9_folds 43 = .ok (.iload 4, 2) := by decide +kernel
theorem dX9_folds_45 : decode cX9_folds 45 = .ok (.iconst 0, 1) := by decide +kernel
theorem dX9_folds_46 : decode cX9_folds 46 = .ok (.iastore, 1) := by decide +kernel
theorem dX9_folds_47 : decode cX9_folds 47 = .ok (.iinc 4 1, 3) := by decide +kernel
theorem dX9_folds_50 : decode cX9_folds 50 = .ok (.goto (-18), 3) := by decide +kernel
theorem dX9_folds_53 : decode cX9_folds 53 = .ok (.iconst 1, 1) := by decide +kernel
theorem dX9_folds_54 : decode cX9_folds 54 = .ok (.istore 4, 2) := by decide +kernel
theorem dX9_folds_56 : decode cX9_folds 56 = .ok (.iconst 2, 1) := by decide +kernel
theorem dX9_folds_57 : decode cX9_folds 57 = .ok (.iload 4, 2) := by decide +kernel
theorem dX9_folds_59 : decode cX9_folds 59 = .ok (.imul, 1) := by decide +kernel
theorem dX9_folds_60 : decode cX9_folds 60 = .ok (.iload_n 3, 1) := by decide +kernel
theorem dX9_folds_61 : decode cX9_folds 61 = .ok (.if_icmp .ge 32, 3) := by decide +kernel
theorem dX9_folds_64 : decode cX9_folds 64 = .ok (.aload_n 0, 1) := by decide +kernel
theorem dX9_folds_65 : decode cX9_folds 65 = .ok (.getfield 34, 3) := by decide +kernel
theorem dX9_folds_68 : decode cX9_folds 68 = .ok (.aload_n 0, 1) := by decide +kernel
theorem dX9_folds_69 : decode cX9_folds 69 = .ok (.getfield 31, 3) := by decide +kernel
theorem dX9_folds_72 : decode cX9_folds 72 = .ok (.iload 4, 2) := by decide +kernel
theorem dX9_folds_74 : decode cX9_folds 74 = .ok (.iaload, 1) := by decide +kernel
theorem dX9_folds_75 : decode cX9_folds 75 = .ok (.aload_n 0, 1) := by decide +kernel
theorem dX9_folds_76 : decode cX9_folds 76 = .ok (.getfield 31, 3) := by decide +kernel
theorem dX9_folds_79 : decode cX9_folds 79 = .ok (.iload_n 3, 1) := by decide +kernel
theorem dX9_folds_80 : decode cX9_folds 80 = .ok (.iload 4, 2) := by decide +kernel
theorem dX9_folds_82 : decode cX9_folds 82 = .ok (.isub, 1) := by decide +kernel
theorem dX9_folds_83 : decode cX9_folds 83 = .ok (.iaload, 1) := by decide +kernel
theorem dX9_folds_84 : decode cX9_folds 84 = .ok (.ixor, 1) := by decide +kernel
theorem dX9_folds_85 : decode cX9_folds 85 = .ok (.iconst 1, 1) := by decide +kernel
theorem dX9_folds_86 : decode cX9_folds 86 = .ok (.iastore, 1) := by decide +kernel
theorem dX9_folds_87 : decode cX9_folds 87 = .ok (.iinc 4 1, 3) := by decide +kernel
theorem dX9_folds_90 : decode cX9_folds 90 = .ok (.goto (-34), 3) := by decide +kernel
theorem dX9_folds_93 : decode cX9_folds 93 = .ok (.aload_n 0, 1) := by decide +kernel
theorem dX9_folds_94 : decode cX9_folds 94 = .ok (.getfield 31, 3) := by decide +kernel
theorem dX9_folds_97 : decode cX9_folds 97 = .ok (.iload_n 3, 1) := by decide +kernel
theorem dX9_folds_98 : decode cX9_folds 98 = .ok (.iconst 0, 1) := by decide +kernel
theorem dX9_folds_99 : decode cX9_folds 99 = .ok (.iastore, 1) := by decide +kernel
theorem dX9_folds_100 : decode cX9_folds 100 = .ok (.aload_n 0, 1) := by decide +kernel
theorem dX9_folds_101 : decode cX9_folds 101 = .ok (.getfield 34, 3) := by decide +kernel
theorem dX9_folds_104 : decode cX9_folds 104 = .ok (.aload_n 0, 1) := by decide +kernel
theorem dX9_folds_105 : decode cX9_folds 105 = .ok (.getfield 31, 3) := by decide +kernel
theorem dX9_folds_108 : decode cX9_folds 108 = .ok (.iload_n 3, 1) := by decide +kernel
theorem dX9_folds_109 : decode cX9_folds 109 = .ok (.iaload, 1) := by decide +kernel
theorem dX9_folds_110 : decode cX9_folds 110 = .ok (.iaload, 1) := by decide +kernel
theorem dX9_folds_111 : decode cX9_folds 111 = .ok (.iconst 1, 1) := by decide +kernel
theorem dX9_folds_112 : decode cX9_folds 112 = .ok (.if_icmp .ne 16, 3) := by decide +kernel
theorem dX9_folds_115 : decode cX9_folds 115 = .ok (.aload_n 0, 1) := by decide +kernel
theorem dX9_folds_116 : decode cX9_folds 116 = .ok (.getfield 31, 3) := by decide +kernel
theorem dX9_folds_119 : decode cX9_folds 119 = .ok (.iload_n 3, 1) := by decide +kernel
theorem dX9_folds_120 : decode cX9_folds 120 = .ok (.dup2, 1) := by decide +kernel
theorem dX9_folds_121 : decode cX9_folds 121 = .ok (.iaload, 1) := by decide +kernel
theorem dX9_folds_122 : decode cX9_folds 122 = .ok (.iconst 1, 1) := by decide +kernel
theorem dX9_folds_123 : decode cX9_folds 123 = .ok (.iadd, 1) := by decide +kernel
theorem dX9_folds_124 : decode cX9_folds 124 = .ok (.iastore, 1) := by decide +kernel
theorem dX9_folds_125 : decode cX9_folds 125 = .ok (.goto (-25), 3) := by decide +kernel
theorem dX9_folds_128 : decode cX9_folds 128 = .ok (.iinc 3 1, 3) := by decide +kernel
theorem dX9_folds_131 : decode cX9_folds 131 = .ok (.goto (-107), 3) := by decide +kernel
theorem dX9_folds_134 : decode cX9_folds 134 = .ok (.iconst 1, 1) := by decide +kernel
theorem dX9_folds_135 : decode cX9_folds 135 = .ok (.istore_n 3, 1) := by decide +kernel
theorem dX9_folds_136 : decode cX9_folds 136 = .ok (.iconst 2, 1) := by decide +kernel
theorem dX9_folds_137 : decode cX9_folds 137 = .ok (.iload_n 3, 1) := by decide +kernel
theorem dX9_folds_138 : decode cX9_folds 138 = .ok (.imul, 1) := by decide +kernel
theorem dX9_folds_139 : decode cX9_folds 139 = .ok (.iload_n 1, 1) := by decide +kernel
theorem dX9_folds_140 : decode cX9_folds 140 = .ok (.if_icmp .ge 36, 3) := by decide +kernel
theorem dX9_folds_143 : decode cX9_folds 143 = .ok (.aload_n 0, 1) := by decide +kernel
theorem dX9_folds_144 : decode cX9_folds 144 = .ok (.getfield 31, 3) := by decide +kernel
theorem dX9_folds_147 : decode cX9_folds 147 = .ok (.iload_n 3, 1) := by decide +kernel
theorem dX9_folds_148 : decode cX9_folds 148 = .ok (.iaload, 1) := by decide +kernel
theorem dX9_folds_149 : decode cX9_folds 149 = .ok (.aload_n 0, 1) := by decide +kernel
theorem dX9_folds_150 : decode cX9_folds 150 = .ok (.getfield 31, 3) := by decide +kernel
theorem dX9_folds_153 : decode cX9_folds 153 = .ok (.iload_n 1, 1) := by decide +kernel
theorem dX9_folds_154 : decode cX9_folds 154 = .ok (.iload_n 3, 1) := by decide +kernel
theorem dX9_folds_155 : decode cX9_folds 155 = .ok (.isub, 1) := by decide +kernel
theorem dX9_folds_156 : decode cX9_folds 156 = .ok (.iaload, 1) := by decide +kernel
theorem dX9_folds_157 : decode cX9_folds 157 = .ok (.if_icmp .ne 13, 3) := by decide +kernel
theorem dX9_folds_160 : decode cX9_folds 160 = .ok (.iload_n 2, 1) := by decide +kernel
theorem dX9_folds_161 : decode cX9_folds 161 = .ok (.ifCond .ne 7, 3) := by decide +kernel
theorem dX9_folds_164 : decode cX9_folds 164 = .ok (.iconst 1, 1) := by decide +kernel
theorem dX9_folds_165 : decode cX9_folds 165 = .ok (.goto 4, 3) := by decide +kernel
theorem dX9_folds_168 : decode cX9_folds 168 = .ok (.iload_n 3, 1) := by decide +kernel
theorem dX9_folds_169 : decode cX9_folds 169 = .ok (.ireturn, 1) := by decide +kernel
theorem dX9_folds_170 : decode cX9_folds 170 = .ok (.iinc 3 1, 3) := by decide +kernel
theorem dX9_folds_173 : decode cX9_folds 173 = .ok (.goto (-37), 3) := by decide +kernel
theorem dX9_folds_176 : decode cX9_folds 176 = .ok (.iload_n 2, 1) := by decide +kernel
theorem dX9_folds_177 : decode cX9_folds 177 = .ok (.ifCond .ne 7, 3) := by decide +kernel
theorem dX9_folds_180 : decode cX9_folds 180 = .ok (.iconst 0, 1) := by decide +kernel
theorem dX9_folds_181 : decode cX9_folds 181 = .ok (.goto 5, 3) := by decide +kernel
theorem dX9_folds_184 : decode cX9_folds 184 = .ok (.bipush (-6), 2) := by decide +kernel
theorem dX9_folds_186 : decode cX9_folds 186 = .ok (.ireturn, 1) := by decide +kernel
theorem dX9_coffee_0 : decode cX9_coffee 0 = .ok (.iload_n 1, 1) := by decide +kernel
theorem dX9_coffee_1 : decode cX9_coffee 1 = .ok (.iconst 0, 1) := by decide +kernel
theorem dX9_coffee_2 : decode cX9_coffee 2 = .ok (.bipush 9, 2) := by decide +kernel
theorem dX9_coffee_4 : decode cX9_coffee 4 = .ok (.invokestatic 51, 3) := by decide +kernel
theorem dX9_coffee_7 : decode cX9_coffee 7 = .ok (.ifCond .eq 73, 3) := by decide +kernel
theorem dX9_coffee_10 : decode cX9_coffee 10 = .ok (.iload_n 2, 1) := by decide +kernel
theorem dX9_coffee_11 : decode cX9_coffee 11 = .ok (.iconst 0, 1) := by decide +kernel
theorem dX9_coffee_12 : decode cX9_coffee 12 = .ok (.iload_n 1, 1) := by decide +kernel
theorem dX9_coffee_13 : decode cX9_coffee 13 = .ok (.invokestatic 51, 3) := by decide +kernel
theorem dX9_coffee_16 : decode cX9_coffee 16 = .ok (.ifCond .eq 64, 3) := by decide +kernel
theorem dX9_coffee_19 : decode cX9_coffee 19 = .ok (.iload_n 3, 1) := by decide +kernel
theorem dX9_coffee_20 : decode cX9_coffee 20 = .ok (.iconst 0, 1) := by decide +kernel
theorem dX9_coffee_21 : decode cX9_coffee 21 = .ok (.bipush 10, 2) := by decide +kernel
theorem dX9_coffee_23 : decode cX9_coffee 23 = .ok (.invokestatic 51, 3) := by decide +kernel
theorem dX9_coffee_26 : decode cX9_coffee 26 = .ok (.ifCond .eq 54, 3) := by decide +kernel
theorem dX9_coffee_29 : decode cX9_coffee 29 = .ok (.iload 4, 2) := by decide +kernel
theorem dX9_coffee_31 : decode cX9_coffee 31 = .ok (.iconst 0, 1) := by decide +kernel
theorem dX9_coffee_32 : decode cX9_coffee 32 = .ok (.bipush 10, 2) := by decide +kernel
theorem dX9_coffee_34 : decode cX9_coffee 34 = .ok (.invokestatic 51, 3) := by decide +kernel
theorem dX9_coffee_37 : decode cX9_coffee 37 = .ok (.ifCond .eq 43, 3) := by decide +kernel
theorem dX9_coffee_40 : decode cX9_coffee 40 = .ok (.iload_n 3, 1) := by decide +kernel
theorem dX9_coffee_41 : decode cX9_coffee 41 = .ok (.iload 4, 2) := by decide +kernel
theorem dX9_coffee_43 : decode cX9_coffee 43 = .ok (.iadd, 1) := by decide +kernel
theorem dX9_coffee_44 : decode cX9_coffee 44 = .ok (.bipush 10, 2) := by decide +kernel
theorem dX9_coffee_46 : decode cX9_coffee 46 = .ok (.if_icmp .gt 34, 3) := by decide +kernel
theorem dX9_coffee_49 : decode cX9_coffee 49 = .ok (.iload 5, 2) := by decide +kernel
theorem dX9_coffee_51 : decode cX9_coffee 51 = .ok (.iconst 0, 1) := by decide +kernel
theorem dX9_coffee_52 : decode cX9_coffee 52 = .ok (.bipush 16, 2) := by decide +kernel
theorem dX9_coffee_54 : decode cX9_coffee 54 = .ok (.invokestatic 51, 3) := by decide +kernel
theorem dX9_coffee_57 : decode cX9_coffee 57 = .ok (.ifCond .eq 23, 3) := by decide +kernel
theorem dX9_coffee_60 : decode cX9_coffee 60 = .ok (.iload 6, 2) := by decide +kernel
theorem dX9_coffee_62 : decode cX9_coffee 62 = .ok (.iconst 0, 1) := by decide +kernel
theorem dX9_coffee_63 : decode cX9_coffee 63 = .ok (.iload_n 1, 1) := by decide +kernel
theorem dX9_coffee_64 : decode cX9_coffee 64 = .ok (.invokestatic 51, 3) := by decide +kernel
theorem dX9_coffee_67 : decode cX9_coffee 67 = .ok (.ifCond .eq 13, 3) := by decide +kernel
theorem dX9_coffee_70 : decode cX9_coffee 70 = .ok (.iload 7, 2) := by decide +kernel
theorem dX9_coffee_72 : decode cX9_coffee 72 = .ok (.iconst 0, 1) := by decide +kernel
theorem dX9_coffee_73 : decode cX9_coffee 73 = .ok (.iconst 1, 1) := by decide +kernel
theorem dX9_coffee_74 : decode cX9_coffee 74 = .ok (.invokestatic 51, 3) := by decide +kernel
theorem dX9_coffee_77 : decode cX9_coffee 77 = .ok (.ifCond .ne 7, 3) := by decide +kernel
theorem dX9_coffee_80 : decode cX9_coffee 80 = .ok (.ldc2_w 170, 3) := by decide +kernel
theorem dX9_coffee_83 : decode cX9_coffee 83 = .ok (.lreturn, 1) := by decide +kernel
theorem dX9_coffee_84 : decode cX9_coffee 84 = .ok (.iconst 0, 1) := by decide +kernel
theorem dX9_coffee_85 : decode cX9_coffee 85 = .ok (.istore 8, 2) := by decide +kernel
theorem dX9_coffee_87 : decode cX9_coffee 87 = .ok (.iload 8, 2) := by decide +kernel
theorem dX9_coffee_89 : decode cX9_coffee 89 = .ok (.bipush 10, 2) := by decide +kernel
theorem dX9_coffee_91 : decode cX9_coffee 91 = .ok (.if_icmp .ge 27, 3) := by decide +kernel
theorem dX9_coffee_94 : decode cX9_coffee 94 = .ok (.aload_n 0, 1) := by decide +kernel
theorem dX9_coffee_95 : decode cX9_coffee 95 = .ok (.getfield 37, 3) := by decide +kernel
theorem dX9_coffee_98 : decode cX9_coffee 98 = .ok (.iload 8, 2) := by decide +kernel
theorem dX9_coffee_100 : decode cX9_coffee 100 = .ok (.iload 8, 2) := by decide +kernel
theorem dX9_coffee_102 : decode cX9_coffee 102 = .ok (.iload_n 2, 1) := by decide +kernel
theorem dX9_coffee_103 : decode cX9_coffee 103 = .ok (.if_icmp .ne 7, 3) := by decide +kernel
theorem dX9_coffee_106 : decode cX9_coffee 106 = .ok (.lconst 1, 1) := by decide +kernel
theorem dX9_coffee_107 : decode cX9_coffee 107 = .ok (.goto 4, 3) := by decide +kernel
theorem dX9_coffee_110 : decode cX9_coffee 110 = .ok (.lconst 0, 1) := by decide +kernel
theorem dX9_coffee_111 : decode cX9_coffee 111 = .ok (.lastore, 1) := by decide +kernel
theorem dX9_coffee_112 : decode cX9_coffee 112 = .ok (.iinc 8 1, 3) := by decide +kernel
theorem dX9_coffee_115 : decode cX9_coffee 115 = .ok (.goto (-28), 3) := by decide +kernel
theorem dX9_coffee_118 : decode cX9_coffee 118 = .ok (.lconst 1, 1) := by decide +kernel
theorem dX9_coffee_119 : decode cX9_coffee 119 = .ok (.lstore 8, 2) := by decide +kernel
theorem dX9_coffee_121 : decode cX9_coffee 121 = .ok (.iconst 0, 1) := by decide +kernel
theorem dX9_coffee_122 : decode cX9_coffee 122 = .ok (.istore 10, 2) := by decide +kernel
theorem dX9_coffee_124 : decode cX9_coffee 124 = .ok (.iload 10, 2) := by decide +kernel
theorem dX9_coffee_126 : decode cX9_coffee 126 = .ok (.iload 5, 2) := by decide +kernel
theorem dX9_coffee_128 : decode cX9_coffee 128 = .ok (.if_icmp .ge 178, 3) := by decide +kernel
theorem dX9_coffee_131 : decode cX9_coffee 131 = .ok (.lload 8, 2) := by decide +kernel
theorem dX9_coffee_133 : decode cX9_coffee 133 = .ok (.ldc2_w 172, 3) := by decide +kernel
theorem dX9_coffee_136 : decode cX9_coffee 136 = .ok (.lmul, 1) := by decide +kernel
theorem dX9_coffee_137 : decode cX9_coffee 137 = .ok (.lstore 8, 2) := by decide +kernel
theorem dX9_coffee_139 : decode cX9_coffee 139 = .ok (.iconst 0, 1) := by decide +kernel
theorem dX9_coffee_140 : decode cX9_coffee 140 = .ok (.istore 11, 2) := by decide +kernel
theorem dX9_coffee_142 : decode cX9_coffee 142 = .ok (.iload 11, 2) := by decide +kernel
theorem dX9_coffee_144 : decode cX9_coffee 144 = .ok (.bipush 10, 2) := by decide +kernel
theorem dX9_coffee_146 : decode cX9_coffee 146 = .ok (.if_icmp .ge 17, 3) := by decide +kernel
theorem dX9_coffee_149 : decode cX9_coffee 149 = .ok (.aload_n 0, 1) := by decide +kernel
theorem dX9_coffee_150 : decode cX9_coffee 150 = .ok (.getfield 41, 3) := by decide +kernel
theorem dX9_coffee_153 : decode cX9_coffee 153 = .ok (.iload 11, 2) := by decide +kernel
theorem dX9_coffee_155 : decode cX9_coffee 155 = .ok (.lconst 0, 1) := by decide +kernel
theorem dX9_coffee_156 : decode cX9_coffee 156 = .ok (.lastore, 1) := by decide +kernel
theorem dX9_coffee_157 : decode cX9_coffee 157 = .ok (.iinc 11 1, 3) := by decide +kernel
theorem dX9_coffee_160 : decode cX9_coffee 160 = .ok (.goto (-18), 3) := by decide +kernel
theorem dX9_coffee_163 : decode cX9_coffee 163 = .ok (.iconst 0, 1) := by decide +kernel
theorem dX9_coffee_164 : decode cX9_coffee 164 = .ok (.istore 11, 2) := by decide +kernel
theorem dX9_coffee_166 : decode cX9_coffee 166 = .ok (.iload 11, 2) := by decide +kernel
theorem dX9_coffee_168 : decode cX9_coffee 168 = .ok (.iload_n 1, 1) := by decide +kernel
theorem dX9_coffee_169 : decode cX9_coffee 169 = .ok (.if_icmp .gt 101, 3) := by decide +kernel
theorem dX9_coffee_172 : decode cX9_coffee 172 = .ok (.aload_n 0, 1) := by decide +kernel
theorem dX9_coffee_173 : decode cX9_coffee 173 = .ok (.getfield 41, 3) := by decide +kernel
theorem dX9_coffee_176 : decode cX9_coffee 176 = .ok (.iload 11, 2) := by decide +kernel
theorem dX9_coffee_178 : decode cX9_coffee 178 = .ok (.iload_n 1, 1) := by decide +kernel
theorem dX9_coffee_179 : decode cX9_coffee 179 = .ok (.if_icmp .ge 10, 3) := by decide +kernel
theorem dX9_coffee_182 : decode cX9_coffee 182 = .ok (.iload 11, 2) := by decide +kernel
theorem dX9_coffee_184 : decode cX9_coffee 184 = .ok (.iconst 1, 1) := by decide +kernel
theorem dX9_coffee_185 : decode cX9_coffee 185 = .ok (.iadd, 1) := by decide +kernel
theorem dX9_coffee_186 : decode cX9_coffee 186 = .ok (.goto 5, 3) := by decide +kernel
theorem dX9_coffee_189 : decode cX9_coffee 189 = .ok (.iload 11, 2) := by decide +kernel
theorem dX9_coffee_191 : decode cX9_coffee 191 = .ok (.dup2, 1) := by decide +kernel
theorem dX9_coffee_192 : decode cX9_coffee 192 = .ok (.laload, 1) := by decide +kernel
theorem dX9_coffee_193 : decode cX9_coffee 193 = .ok (.aload_n 0, 1) := by decide +kernel
theorem dX9_coffee_194 : decode cX9_coffee 194 = .ok (.getfield 37, 3) := by decide +kernel
theorem dX9_coffee_197 : decode cX9_coffee 197 = .ok (.iload 11, 2) := by decide +kernel
theorem dX9_coffee_199 : decode cX9_coffee 199 = .ok (.laload, 1) := by decide +kernel
theorem dX9_coffee_200 : decode cX9_coffee 200 = .ok (.iload_n 3, 1) := by decide +kernel
theorem dX9_coffee_201 : decode cX9_coffee 201 = .ok (.i2l, 1) := by decide +kernel
theorem dX9_coffee_202 : decode cX9_coffee 202 = .ok (.lmul, 1) := by decide +kernel
theorem dX9_coffee_203 : decode cX9_coffee 203 = .ok (.ladd, 1) := by decide +kernel
theorem dX9_coffee_204 : decode cX9_coffee 204 = .ok (.lastore, 1) := by decide +kernel
theorem dX9_coffee_205 : decode cX9_coffee 205 = .ok (.aload_n 0, 1) := by decide +kernel
theorem dX9_coffee_206 : decode cX9_coffee 206 = .ok (.getfield 41, 3) := by decide +kernel
theorem dX9_coffee_209 : decode cX9_coffee 209 = .ok (.iload 11, 2) := by decide +kernel
theorem dX9_coffee_211 : decode cX9_coffee 211 = .ok (.ifCond .le 10, 3) := by decide +kernel
theorem dX9_coffee_214 : decode cX9_coffee 214 = .ok (.iload 11, 2) := by decide +kernel
theorem dX9_coffee_216 : decode cX9_coffee 216 = .ok (.iconst 1, 1) := by decide +kernel
theorem dX9_coffee_217 : decode cX9_coffee 217 = .ok (.isub, 1) := by decide +kernel
theorem dX9_coffee_218 : decode cX9_coffee 218 = .ok (.goto 5, 3) := by decide +kernel
theorem dX9_coffee_221 : decode cX9_coffee 221 = .ok (.iload 11, 2) := by decide +kernel
theorem dX9_coffee_223 : decode cX9_coffee 223 = .ok (.dup2, 1) := by decide +kernel
theorem dX9_coffee_224 : decode cX9_coffee 224 = .ok (.laload, 1) := by decide +kernel
theorem dX9_coffee_225 : decode cX9_coffee 225 = .ok (.aload_n 0, 1) := by decide +kernel
theorem dX9_coffee_226 : decode cX9_coffee 226 = .ok (.getfield 37, 3) := by decide +kernel
theorem dX9_coffee_229 : decode cX9_coffee 229 = .ok (.iload 11, 2) := by decide +kernel
theorem dX9_coffee_231 : decode cX9_coffee 231 = .ok (.laload, 1) := by decide +kernel
theorem dX9_coffee_232 : decode cX9_coffee 232 = .ok (.iload 4, 2) := by decide +kernel
theorem dX9_coffee_234 : decode cX9_coffee 234 = .ok (.i2l, 1) := by decide +kernel
theorem dX9_coffee_235 : decode cX9_coffee 235 = .ok (.lmul, 1) := by decide +kernel
theorem dX9_coffee_236 : decode cX9_coffee 236 = .ok (.ladd, 1) := by decide +kernel
theorem dX9_coffee_237 : decode cX9_coffee 237 = .ok (.lastore, 1) := by decide +kernel
theorem dX9_coffee_238 : decode cX9_coffee 238 = .ok (.aload_n 0, 1) := by decide +kernel
theorem dX9_coffee_239 : decode cX9_coffee 239 = .ok (.getfield 41, 3) := by decide +kernel
theorem dX9_coffee_242 : decode cX9_coffee 242 = .ok (.iload 11, 2) := by decide +kernel
theorem dX9_coffee_244 : decode cX9_coffee 244 = .ok (.dup2, 1) := by decide +kernel
theorem dX9_coffee_245 : decode cX9_coffee 245 = .ok (.laload, 1) := by decide +kernel
theorem dX9_coffee_246 : decode cX9_coffee 246 = .ok (.aload_n 0, 1) := by decide +kernel
theorem dX9_coffee_247 : decode cX9_coffee 247 = .ok (.getfield 37, 3) := by decide +kernel
theorem dX9_coffee_250 : decode cX9_coffee 250 = .ok (.iload 11, 2) := by decide +kernel
theorem dX9_coffee_252 : decode cX9_coffee 252 = .ok (.laload, 1) := by decide +kernel
theorem dX9_coffee_253 : decode cX9_coffee 253 = .ok (.bipush 10, 2) := by decide +kernel
theorem dX9_coffee_255 : decode cX9_coffee 255 = .ok (.iload_n 3, 1) := by decide +kernel
theorem dX9_coffee_256 : decode cX9_coffee 256 = .ok (.isub, 1) := by decide +kernel
theorem dX9_coffee_257 : decode cX9_coffee 257 = .ok (.iload 4, 2) := by decide +kernel
theorem dX9_coffee_259 : decode cX9_coffee 259 = .ok (.isub, 1) := by decide +kernel
theorem dX9_coffee_260 : decode cX9_coffee 260 = .ok (.i2l, 1) := by decide +kernel
theorem dX9_coffee_261 : decode cX9_coffee 261 = .ok (.lmul, 1) := by decide +kernel
theorem dX9_coffee_262 : decode cX9_coffee 262 = .ok (.ladd, 1) := by decide +kernel
theorem dX9_coffee_263 : decode cX9_coffee 263 = .ok (.lastore, 1) := by decide +kernel
theorem dX9_coffee_264 : decode cX9_coffee 264 = .ok (.iinc 11 1, 3) := by decide +kernel
theorem dX9_coffee_267 : decode cX9_coffee 267 = .ok (.goto (-101), 3) := by decide +kernel
theorem dX9_coffee_270 : decode cX9_coffee 270 = .ok (.iconst 0, 1) := by decide +kernel
theorem dX9_coffee_271 : decode cX9_coffee 271 = .ok (.istore 11, 2) := by decide +kernel
theorem dX9_coffee_273 : decode cX9_coffee 273 = .ok (.iload 11, 2) := by decide +kernel
theorem dX9_coffee_275 : decode cX9_coffee 275 = .ok (.bipush 10, 2) := by decide +kernel
theorem dX9_coffee_277 : decode cX9_coffee 277 = .ok (.if_icmp .ge 23, 3) := by decide +kernel
theorem dX9_coffee_280 : decode cX9_coffee 280 = .ok (.aload_n 0, 1) := by decide +kernel
theorem dX9_coffee_281 : decode cX9_coffee 281 = .ok (.getfield 37, 3) := by decide +kernel
theorem dX9_coffee_284 : decode cX9_coffee 284 = .ok (.iload 11, 2) := by decide +kernel
theorem dX9_coffee_286 : decode cX9_coffee 286 = .ok (.aload_n 0, 1) := by decide +kernel
theorem dX9_coffee_287 : decode cX9_coffee 287 = .ok (.getfield 41, 3) := by decide +kernel
theorem dX9_coffee_290 : decode cX9_coffee 290 = .ok (.iload 11, 2) := by decide +kernel
theorem dX9_coffee_292 : decode cX9_coffee 292 = .ok (.laload, 1) := by decide +kernel
theorem dX9_coffee_293 : decode cX9_coffee 293 = .ok (.lastore, 1) := by decide +kernel
theorem dX9_coffee_294 : decode cX9_coffee 294 = .ok (.iinc 11 1, 3) := by decide +kernel
theorem dX9_coffee_297 : decode cX9_coffee 297 = .ok (.goto (-24), 3) := by decide +kernel
theorem dX9_coffee_300 : decode cX9_coffee 300 = .ok (.iinc 10 1, 3) := by decide +kernel
theorem dX9_coffee_303 : decode cX9_coffee 303 = .ok (.goto (-179), 3) := by decide +kernel
theorem dX9_coffee_306 : decode cX9_coffee 306 = .ok (.aload_n 0, 1) := by decide +kernel
theorem dX9_coffee_307 : decode cX9_coffee 307 = .ok (.getfield 37, 3) := by decide +kernel
theorem dX9_coffee_310 : decode cX9_coffee 310 = .ok (.iload 6, 2) := by decide +kernel
theorem dX9_coffee_312 : decode cX9_coffee 312 = .ok (.laload, 1) := by decide +kernel
theorem dX9_coffee_313 : decode cX9_coffee 313 = .ok (.lstore 10, 2) := by decide +kernel
theorem dX9_coffee_315 : decode cX9_coffee 315 = .ok (.lload 8, 2) := by decide +kernel
theorem dX9_coffee_317 : decode cX9_coffee 317 = .ok (.lstore 12, 2) := by decide +kernel
theorem dX9_coffee_319 : decode cX9_coffee 319 = .ok (.lload 12, 2) := by decide +kernel
theorem dX9_coffee_321 : decode cX9_coffee 321 = .ok (.lconst 0, 1) := by decide +kernel
theorem dX9_coffee_322 : decode cX9_coffee 322 = .ok (.lcmp, 1) := by decide +kernel
theorem dX9_coffee_323 : decode cX9_coffee 323 = .ok (.ifCond .eq 21, 3) := by decide +kernel
theorem dX9_coffee_326 : decode cX9_coffee 326 = .ok (.lload 10, 2) := by decide +kernel
theorem dX9_coffee_328 : decode cX9_coffee 328 = .ok (.lload 12, 2) := by decide +kernel
theorem dX9_coffee_330 : decode cX9_coffee 330 = .ok (.lrem, 1) := by decide +kernel
theorem dX9_coffee_331 : decode cX9_coffee 331 = .ok (.lstore 14, 2) := by decide +kernel
theorem dX9_coffee_333 : decode cX9_coffee 333 = .ok (.lload 12, 2) := by decide +kernel
theorem dX9_coffee_335 : decode cX9_coffee 335 = .ok (.lstore 10, 2) := by decide +kernel
theorem dX9_coffee_337 : decode cX9_coffee 337 = .ok (.lload 14, 2) := by decide +kernel
theorem dX9_coffee_339 : decode cX9_coffee 339 = .ok (.lstore 12, 2) := by decide +kernel
theorem dX9_coffee_341 : decode cX9_coffee 341 = .ok (.goto (-22), 3) := by decide +kernel
theorem dX9_coffee_344 : decode cX9_coffee 344 = .ok (.iload 7, 2) := by decide +kernel
theorem dX9_coffee_346 : decode cX9_coffee 346 = .ok (.ifCond .ne 16, 3) := by decide +kernel
theorem dX9_coffee_349 : decode cX9_coffee 349 = .ok (.aload_n 0, 1) := by decide +kernel
theorem dX9_coffee_350 : decode cX9_coffee 350 = .ok (.getfield 37, 3) := by decide +kernel
theorem dX9_coffee_353 : decode cX9_coffee 353 = .ok (.iload 6, 2) := by decide +kernel
theorem dX9_coffee_355 : decode cX9_coffee 355 = .ok (.laload, 1) := by decide +kernel
theorem dX9_coffee_356 : decode cX9_coffee 356 = .ok (.lload 10, 2) := by decide +kernel
theorem dX9_coffee_358 : decode cX9_coffee 358 = .ok (.ldiv, 1) := by decide +kernel
theorem dX9_coffee_359 : decode cX9_coffee 359 = .ok (.goto 8, 3) := by decide +kernel
theorem dX9_coffee_362 : decode cX9_coffee 362 = .ok (.lload 8, 2) := by decide +kernel
theorem dX9_coffee_364 : decode cX9_coffee 364 = .ok (.lload 10, 2) := by decide +kernel
theorem dX9_coffee_366 : decode cX9_coffee 366 = .ok (.ldiv, 1) := by decide +kernel
theorem dX9_coffee_367 : decode cX9_coffee 367 = .ok (.lreturn, 1) := by decide +kernel
theorem dX9_year_0 : decode cX9_year 0 = .ok (.iload_n 1, 1) := by decide +kernel
theorem dX9_year_1 : decode cX9_year 1 = .ok (.iconst 0, 1) := by decide +kernel
theorem dX9_year_2 : decode cX9_year 2 = .ok (.sipush 9999, 3) := by decide +kernel
theorem dX9_year_5 : decode cX9_year 5 = .ok (.invokestatic 51, 3) := by decide +kernel
theorem dX9_year_8 : decode cX9_year 8 = .ok (.ifCond .eq 22, 3) := by decide +kernel
theorem dX9_year_11 : decode cX9_year 11 = .ok (.iload_n 2, 1) := by decide +kernel
theorem dX9_year_12 : decode cX9_year 12 = .ok (.iconst 1, 1) := by decide +kernel
theorem dX9_year_13 : decode cX9_year 13 = .ok (.bipush 99, 2) := by decide +kernel
theorem dX9_year_15 : decode cX9_year 15 = .ok (.invokestatic 51, 3) := by decide +kernel
theorem dX9_year_18 : decode cX9_year 18 = .ok (.ifCond .eq 12, 3) := by decide +kernel
theorem dX9_year_21 : decode cX9_year 21 = .ok (.iload_n 3, 1) := by decide +kernel
theorem dX9_year_22 : decode cX9_year 22 = .ok (.iconst 0, 1) := by decide +kernel
theorem dX9_year_23 : decode cX9_year 23 = .ok (.iconst 2, 1) := by decide +kernel
theorem dX9_year_24 : decode cX9_year 24 = .ok (.invokestatic 51, 3) := by decide +kernel
theorem dX9_year_27 : decode cX9_year 27 = .ok (.ifCond .ne 6, 3) := by decide +kernel
theorem dX9_year_30 : decode cX9_year 30 = .ok (.bipush (-2), 2) := by decide +kernel
theorem dX9_year_32 : decode cX9_year 32 = .ok (.ireturn, 1) := by decide +kernel
theorem dX9_year_33 : decode cX9_year 33 = .ok (.aload_n 0, 1) := by decide +kernel
theorem dX9_year_34 : decode cX9_year 34 = .ok (.invokevirtual 116, 3) := by decide +kernel
theorem dX9_year_37 : decode cX9_year 37 = .ok (.iload_n 1, 1) := by decide +kernel
theorem dX9_year_38 : decode cX9_year 38 = .ok (.istore 4, 2) := by decide +kernel
theorem dX9_year_40 : decode cX9_year 40 = .ok (.iconst 0, 1) := by decide +kernel
theorem dX9_year_41 : decode cX9_year 41 = .ok (.istore 5, 2) := by decide +kernel
theorem dX9_year_43 : decode cX9_year 43 = .ok (.iload 5, 2) := by decide +kernel
theorem dX9_year_45 : decode cX9_year 45 = .ok (.iload_n 2, 1) := by decide +kernel
theorem dX9_year_46 : decode cX9_year 46 = .ok (.if_icmp .ge 123, 3) := by decide +kernel
theorem dX9_year_49 : decode cX9_year 49 = .ok (.bipush 75, 2) := by decide +kernel
theorem dX9_year_51 : decode cX9_year 51 = .ok (.iload 4, 2) := by decide +kernel
theorem dX9_year_53 : decode cX9_year 53 = .ok (.imul, 1) := by decide +kernel
theorem dX9_year_54 : decode cX9_year 54 = .ok (.bipush 74, 2) := by decide +kernel
theorem dX9_year_56 : decode cX9_year 56 = .ok (.iadd, 1) := by decide +kernel
theorem dX9_year_57 : decode cX9_year 57 = .ok (.ldc 174, 2) := by decide +kernel
theorem dX9_year_59 : decode cX9_year 59 = .ok (.irem, 1) := by decide +kernel
theorem dX9_year_60 : decode cX9_year 60 = .ok (.istore 4, 2) := by decide +kernel
theorem dX9_year_62 : decode cX9_year 62 = .ok (.iload 4, 2) := by decide +kernel
theorem dX9_year_64 : decode cX9_year 64 = .ok (.bipush 8, 2) := by decide +kernel
theorem dX9_year_66 : decode cX9_year 66 = .ok (.irem, 1) := by decide +kernel
theorem dX9_year_67 : decode cX9_year 67 = .ok (.istore 6, 2) := by decide +kernel
theorem dX9_year_69 : decode cX9_year 69 = .ok (.iload 4, 2) := by decide +kernel
theorem dX9_year_71 : decode cX9_year 71 = .ok (.bipush 8, 2) := by decide +kernel
theorem dX9_year_73 : decode cX9_year 73 = .ok (.idiv, 1) := by decide +kernel
theorem dX9_year_74 : decode cX9_year 74 = .ok (.istore 7, 2) := by decide +kernel
theorem dX9_year_76 : decode cX9_year 76 = .ok (.iload 6, 2) := by decide +kernel
theorem dX9_year_78 : decode cX9_year 78 = .ok (.ifCond .ne 24, 3) := by decide +kernel
theorem dX9_year_81 : decode cX9_year 81 = .ok (.aload_n 0, 1) := by decide +kernel
theorem dX9_year_82 : decode cX9_year 82 = .ok (.aload_n 0, 1) := by decide +kernel
theorem dX9_year_83 : decode cX9_year 83 = .ok (.iload 7, 2) := by decide +kernel
theorem dX9_year_85 : decode cX9_year 85 = .ok (.iconst 4, 1) := by decide +kernel
theorem dX9_year_86 : decode cX9_year 86 = .ok (.irem, 1) := by decide +kernel
theorem dX9_year_87 : decode cX9_year 87 = .ok (.iload 7, 2) := by decide +kernel
theorem dX9_year_89 : decode cX9_year 89 = .ok (.iconst 4, 1) := by decide +kernel
theorem dX9_year_90 : decode cX9_year 90 = .ok (.idiv, 1) := by decide +kernel
theorem dX9_year_91 : decode cX9_year 91 = .ok (.iconst 4, 1) := by decide +kernel
theorem dX9_year_92 : decode cX9_year 92 = .ok (.irem, 1) := by decide +kernel
theorem dX9_year_93 : decode cX9_year 93 = .ok (.invokevirtual 113, 3) := by decide +kernel
theorem dX9_year_96 : decode cX9_year 96 = .ok (.putfield 125, 3) := by decide +kernel
theorem dX9_year_99 : decode cX9_year 99 = .ok (.goto 64, 3) := by decide +kernel
theorem dX9_year_102 : decode cX9_year 102 = .ok (.iload 6, 2) := by decide +kernel
theorem dX9_year_104 : decode cX9_year 104 = .ok (.iconst 1, 1) := by decide +kernel
theorem dX9_year_105 : decode cX9_year 105 = .ok (.if_icmp .ne 19, 3) := by decide +kernel
theorem dX9_year_108 : decode cX9_year 108 = .ok (.aload_n 0, 1) := by decide +kernel
theorem dX9_year_109 : decode cX9_year 109 = .ok (.aload_n 0, 1) := by decide +kernel
theorem dX9_year_110 : decode cX9_year 110 = .ok (.iload 7, 2) := by decide +kernel
theorem dX9_year_112 : decode cX9_year 112 = .ok (.bipush 25, 2) := by decide +kernel
theorem dX9_year_114 : decode cX9_year 114 = .ok (.irem, 1) := by decide +kernel
theorem dX9_year_115 : decode cX9_year 115 = .ok (.invokevirtual 107, 3) := by decide +kernel
theorem dX9_year_118 : decode cX9_year 118 = .ok (.putfield 125, 3) := by decide +kernel
theorem dX9_year_121 : decode cX9_year 121 = .ok (.goto 42, 3) := by decide +kernel
theorem dX9_year_124 : decode cX9_year 124 = .ok (.iload 6, 2) := by decide +kernel
theorem dX9_year_126 : decode cX9_year 126 = .ok (.iconst 4, 1) := by decide +kernel
theorem dX9_year_127 : decode cX9_year 127 = .ok (.if_icmp .ge 28, 3) := by decide +kernel
theorem dX9_year_130 : decode cX9_year 130 = .ok (.aload_n 0, 1) := by decide +kernel
theorem dX9_year_131 : decode cX9_year 131 = .ok (.aload_n 0, 1) := by decide +kernel
theorem dX9_year_132 : decode cX9_year 132 = .ok (.iload 7, 2) := by decide +kernel
theorem dX9_year_134 : decode cX9_year 134 = .ok (.bipush 25, 2) := by decide +kernel
theorem dX9_year_136 : decode cX9_year 136 = .ok (.irem, 1) := by decide +kernel
theorem dX9_year_137 : decode cX9_year 137 = .ok (.iconst 1, 1) := by decide +kernel
theorem dX9_year_138 : decode cX9_year 138 = .ok (.iload 7, 2) := by decide +kernel
theorem dX9_year_140 : decode cX9_year 140 = .ok (.bipush 25, 2) := by decide +kernel
theorem dX9_year_142 : decode cX9_year 142 = .ok (.idiv, 1) := by decide +kernel
theorem dX9_year_143 : decode cX9_year 143 = .ok (.iconst 3, 1) := by decide +kernel
theorem dX9_year_144 : decode cX9_year 144 = .ok (.irem, 1) := by decide +kernel
theorem dX9_year_145 : decode cX9_year 145 = .ok (.iadd, 1) := by decide +kernel
theorem dX9_year_146 : decode cX9_year 146 = .ok (.invokevirtual 104, 3) := by decide +kernel
theorem dX9_year_149 : decode cX9_year 149 = .ok (.putfield 125, 3) := by decide +kernel
theorem dX9_year_152 : decode cX9_year 152 = .ok (.goto 11, 3) := by decide +kernel
theorem dX9_year_155 : decode cX9_year 155 = .ok (.aload_n 0, 1) := by decide +kernel
theorem dX9_year_156 : decode cX9_year 156 = .ok (.aload_n 0, 1) := by decide +kernel
theorem dX9_year_157 : decode cX9_year 157 = .ok (.invokevirtual 101, 3) := by decide +kernel
theorem dX9_year_160 : decode cX9_year 160 = .ok (.putfield 125, 3) := by decide +kernel
theorem dX9_year_163 : decode cX9_year 163 = .ok (.iinc 5 1, 3) := by decide +kernel
theorem dX9_year_166 : decode cX9_year 166 = .ok (.goto (-123), 3) := by decide +kernel
theorem dX9_year_169 : decode cX9_year 169 = .ok (.iload_n 3, 1) := by decide +kernel
theorem dX9_year_170 : decode cX9_year 170 = .ok (.ifCond .ne 11, 3) := by decide +kernel
theorem dX9_year_173 : decode cX9_year 173 = .ok (.aload_n 0, 1) := by decide +kernel
theorem dX9_year_174 : decode cX9_year 174 = .ok (.iconst 0, 1) := by decide +kernel
theorem dX9_year_175 : decode cX9_year 175 = .ok (.invokevirtual 137, 3) := by decide +kernel
theorem dX9_year_178 : decode cX9_year 178 = .ok (.goto 39, 3) := by decide +kernel
theorem dX9_year_181 : decode cX9_year 181 = .ok (.iload_n 3, 1) := by decide +kernel
theorem dX9_year_182 : decode cX9_year 182 = .ok (.iconst 1, 1) := by decide +kernel
theorem dX9_year_183 : decode cX9_year 183 = .ok (.if_icmp .ne 29, 3) := by decide +kernel
theorem dX9_year_186 : decode cX9_year 186 = .ok (.aload_n 0, 1) := by decide +kernel
theorem dX9_year_187 : decode cX9_year 187 = .ok (.getfield 13, 3) := by decide +kernel
theorem dX9_year_190 : decode cX9_year 190 = .ok (.bipush 58, 2) := by decide +kernel
theorem dX9_year_192 : decode cX9_year 192 = .ok (.iaload, 1) := by decide +kernel
theorem dX9_year_193 : decode cX9_year 193 = .ok (.aload_n 0, 1) := by decide +kernel
theorem dX9_year_194 : decode cX9_year 194 = .ok (.getfield 13, 3) := by decide +kernel
theorem dX9_year_197 : decode cX9_year 197 = .ok (.bipush 59, 2) := by decide +kernel
theorem dX9_year_199 : decode cX9_year 199 = .ok (.iaload, 1) := by decide +kernel
theorem dX9_year_200 : decode cX9_year 200 = .ok (.iadd, 1) := by decide +kernel
theorem dX9_year_201 : decode cX9_year 201 = .ok (.aload_n 0, 1) := by decide +kernel
theorem dX9_year_202 : decode cX9_year 202 = .ok (.getfield 13, 3) := by decide +kernel
theorem dX9_year_205 : decode cX9_year 205 = .ok (.bipush 60, 2) := by decide +kernel
theorem dX9_year_207 : decode cX9_year 207 = .ok (.iaload, 1) := by decide +kernel
theorem dX9_year_208 : decode cX9_year 208 = .ok (.iadd, 1) := by decide +kernel
theorem dX9_year_209 : decode cX9_year 209 = .ok (.goto 8, 3) := by decide +kernel
theorem dX9_year_212 : decode cX9_year 212 = .ok (.aload_n 0, 1) := by decide +kernel
theorem dX9_year_213 : decode cX9_year 213 = .ok (.iconst 4, 1) := by decide +kernel
theorem dX9_year_214 : decode cX9_year 214 = .ok (.invokevirtual 137, 3) := by decide +kernel
theorem dX9_year_217 : decode cX9_year 217 = .ok (.ireturn, 1) := by decide +kernel
theorem dX9_image_0 : decode cX9_image 0 = .ok (.iload_n 1, 1) := by decide +kernel
theorem dX9_image_1 : decode cX9_image 1 = .ok (.iconst 0, 1) := by decide +kernel
theorem dX9_image_2 : decode cX9_image 2 = .ok (.iconst 1, 1) := by decide +kernel
theorem dX9_image_3 : decode cX9_image 3 = .ok (.invokestatic 51, 3) := by decide +kernel
theorem dX9_image_6 : decode cX9_image 6 = .ok (.ifCond .ne 6, 3) := by decide +kernel
theorem dX9_image_9 : decode cX9_image 9 = .ok (.bipush (-2), 2) := by decide +kernel
theorem dX9_image_11 : decode cX9_image 11 = .ok (.ireturn, 1) := by decide +kernel
theorem dX9_image_12 : decode cX9_image 12 = .ok (.bipush 90, 2) := by decide +kernel
theorem dX9_image_14 : decode cX9_image 14 = .ok (.iload_n 1, 1) := by decide +kernel
theorem dX9_image_15 : decode cX9_image 15 = .ok (.imul, 1) := by decide +kernel
theorem dX9_image_16 : decode cX9_image 16 = .ok (.istore_n 2, 1) := by decide +kernel
theorem dX9_image_17 : decode cX9_image 17 = .ok (.iconst 0, 1) := by decide +kernel
theorem dX9_image_18 : decode cX9_image 18 = .ok (.istore_n 3, 1) := by decide +kernel
theorem dX9_image_19 : decode cX9_image 19 = .ok (.iload_n 3, 1) := by decide +kernel
theorem dX9_image_20 : decode cX9_image 20 = .ok (.bipush 63, 2) := by decide +kernel
theorem dX9_image_22 : decode cX9_image 22 = .ok (.if_icmp .ge 23, 3) := by decide +kernel
theorem dX9_image_25 : decode cX9_image 25 = .ok (.aload_n 0, 1) := by decide +kernel
theorem dX9_image_26 : decode cX9_image 26 = .ok (.getfield 44, 3) := by decide +kernel
theorem dX9_image_29 : decode cX9_image 29 = .ok (.iload_n 2, 1) := by decide +kernel
theorem dX9_image_30 : decode cX9_image 30 = .ok (.iload_n 3, 1) := by decide +kernel
theorem dX9_image_31 : decode cX9_image 31 = .ok (.iadd, 1) := by decide +kernel
theorem dX9_image_32 : decode cX9_image 32 = .ok (.aload_n 0, 1) := by decide +kernel
theorem dX9_image_33 : decode cX9_image 33 = .ok (.getfield 7, 3) := by decide +kernel
theorem dX9_image_36 : decode cX9_image 36 = .ok (.iload_n 3, 1) := by decide +kernel
theorem dX9_image_37 : decode cX9_image 37 = .ok (.iaload, 1) := by decide +kernel
theorem dX9_image_38 : decode cX9_image 38 = .ok (.iastore, 1) := by decide +kernel
theorem dX9_image_39 : decode cX9_image 39 = .ok (.iinc 3 1, 3) := by decide +kernel
theorem dX9_image_42 : decode cX9_image 42 = .ok (.goto (-23), 3) := by decide +kernel
theorem dX9_image_45 : decode cX9_image 45 = .ok (.iconst 0, 1) := by decide +kernel
theorem dX9_image_46 : decode cX9_image 46 = .ok (.istore_n 3, 1) := by decide +kernel
theorem dX9_image_47 : decode cX9_image 47 = .ok (.iload_n 3, 1) := by decide +kernel
theorem dX9_image_48 : decode cX9_image 48 = .ok (.bipush 16, 2) := by decide +kernel
theorem dX9_image_50 : decode cX9_image 50 = .ok (.if_icmp .ge 26, 3) := by decide +kernel
theorem dX9_image_53 : decode cX9_image 53 = .ok (.aload_n 0, 1) := by decide +kernel
theorem dX9_image_54 : decode cX9_image 54 = .ok (.getfield 44, 3) := by decide +kernel
theorem dX9_image_57 : decode cX9_image 57 = .ok (.iload_n 2, 1) := by decide +kernel
theorem dX9_image_58 : decode cX9_image 58 = .ok (.bipush 63, 2) := by decide +kernel
theorem dX9_image_60 : decode cX9_image 60 = .ok (.iadd, 1) := by decide +kernel
theorem dX9_image_61 : decode cX9_image 61 = .ok (.iload_n 3, 1) := by decide +kernel
theorem dX9_image_62 : decode cX9_image 62 = .ok (.iadd, 1) := by decide +kernel
theorem dX9_image_63 : decode cX9_image 63 = .ok (.aload_n 0, 1) := by decide +kernel
theorem dX9_image_64 : decode cX9_image 64 = .ok (.getfield 16, 3) := by decide +kernel
theorem dX9_image_67 : decode cX9_image 67 = .ok (.iload_n 3, 1) := by decide +kernel
theorem dX9_image_68 : decode cX9_image 68 = .ok (.iaload, 1) := by decide +kernel
theorem dX9_image_69 : decode cX9_image 69 = .ok (.iastore, 1) := by decide +kernel
theorem dX9_image_70 : decode cX9_image 70 = .ok (.iinc 3 1, 3) := by decide +kernel
theorem dX9_image_73 : decode cX9_image 73 = .ok (.goto (-26), 3) := by decide +kernel
theorem dX9_image_76 : decode cX9_image 76 = .ok (.aload_n 0, 1) := by decide +kernel
theorem dX9_image_77 : decode cX9_image 77 = .ok (.getfield 44, 3) := by decide +kernel
theorem dX9_image_80 : decode cX9_image 80 = .ok (.iload_n 2, 1) := by decide +kernel
theorem dX9_image_81 : decode cX9_image 81 = .ok (.bipush 80, 2) := by decide +kernel
theorem dX9_image_83 : decode cX9_image 83 = .ok (.iadd, 1) := by decide +kernel
theorem dX9_image_84 : decode cX9_image 84 = .ok (.aload_n 0, 1) := by decide +kernel
theorem dX9_image_85 : decode cX9_image 85 = .ok (.getfield 161, 3) := by decide +kernel
theorem dX9_image_88 : decode cX9_image 88 = .ok (.iastore, 1) := by decide +kernel
theorem dX9_image_89 : decode cX9_image 89 = .ok (.aload_n 0, 1) := by decide +kernel
theorem dX9_image_90 : decode cX9_image 90 = .ok (.getfield 47, 3) := by decide +kernel
theorem dX9_image_93 : decode cX9_image 93 = .ok (.iload_n 1, 1) := by decide +kernel
theorem dX9_image_94 : decode cX9_image 94 = .ok (.iconst 1, 1) := by decide +kernel
theorem dX9_image_95 : decode cX9_image 95 = .ok (.bastore, 1) := by decide +kernel
theorem dX9_image_96 : decode cX9_image 96 = .ok (.iconst 1, 1) := by decide +kernel
theorem dX9_image_97 : decode cX9_image 97 = .ok (.ireturn, 1) := by decide +kernel
theorem dX9_restore_0 : decode cX9_restore 0 = .ok (.iload_n 1, 1) := by decide +kernel
theorem dX9_restore_1 : decode cX9_restore 1 = .ok (.iconst 0, 1) := by decide +kernel
theorem dX9_restore_2 : decode cX9_restore 2 = .ok (.iconst 1, 1) := by decide +kernel
theorem dX9_restore_3 : decode cX9_restore 3 = .ok (.invokestatic 51, 3) := by decide +kernel
theorem dX9_restore_6 : decode cX9_restore 6 = .ok (.ifCond .ne 6, 3) := by decide +kernel
theorem dX9_restore_9 : decode cX9_restore 9 = .ok (.bipush (-2), 2) := by decide +kernel
theorem dX9_restore_11 : decode cX9_restore 11 = .ok (.ireturn, 1) := by decide +kernel
theorem dX9_restore_12 : decode cX9_restore 12 = .ok (.aload_n 0, 1) := by decide +kernel
theorem dX9_restore_13 : decode cX9_restore 13 = .ok (.getfield 47, 3) := by decide +kernel
theorem dX9_restore_16 : decode cX9_restore 16 = .ok (.iload_n 1, 1) := by decide +kernel
theorem dX9_restore_17 : decode cX9_restore 17 = .ok (.baload, 1) := by decide +kernel
theorem dX9_restore_18 : decode cX9_restore 18 = .ok (.ifCond .ne 6, 3) := by decide +kernel
theorem dX9_restore_21 : decode cX9_restore 21 = .ok (.bipush (-3), 2) := by decide +kernel
theorem dX9_restore_23 : decode cX9_restore 23 = .ok (.ireturn, 1) := by decide +kernel
theorem dX9_restore_24 : decode cX9_restore 24 = .ok (.bipush 90, 2) := by decide +kernel
theorem dX9_restore_26 : decode cX9_restore 26 = .ok (.iload_n 1, 1) := by decide +kernel
theorem dX9_restore_27 : decode cX9_restore 27 = .ok (.imul, 1) := by decide +kernel
theorem dX9_restore_28 : decode cX9_restore 28 = .ok (.istore_n 2, 1) := by decide +kernel
theorem dX9_restore_29 : decode cX9_restore 29 = .ok (.iconst 0, 1) := by decide +kernel
theorem dX9_restore_30 : decode cX9_restore 30 = .ok (.istore_n 3, 1) := by decide +kernel
theorem dX9_restore_31 : decode cX9_restore 31 = .ok (.iload_n 3, 1) := by decide +kernel
theorem dX9_restore_32 : decode cX9_restore 32 = .ok (.bipush 63, 2) := by decide +kernel
theorem dX9_restore_34 : decode cX9_restore 34 = .ok (.if_icmp .ge 23, 3) := by decide +kernel
theorem dX9_restore_37 : decode cX9_restore 37 = .ok (.aload_n 0, 1) := by decide +kernel
theorem dX9_restore_38 : decode cX9_restore 38 = .ok (.getfield 7, 3) := by decide +kernel
theorem dX9_restore_41 : decode cX9_restore 41 = .ok (.iload_n 3, 1) := by decide +kernel
theorem dX9_restore_42 : decode cX9_restore 42 = .ok (.aload_n 0, 1) := by decide +kernel
theorem dX9_restore_43 : decode cX9_restore 43 = .ok (.getfield 44, 3) := by decide +kernel
theorem dX9_restore_46 : decode cX9_restore 46 = .ok (.iload_n 2, 1) := by decide +kernel
theorem dX9_restore_47 : decode cX9_restore 47 = .ok (.iload_n 3, 1) := by decide +kernel
theorem dX9_restore_48 : decode cX9_restore 48 = .ok (.iadd, 1) := by decide +kernel
theorem dX9_restore_49 : decode cX9_restore 49 = .ok (.iaload, 1) := by decide +kernel
theorem dX9_restore_50 : decode cX9_restore 50 = .ok (.iastore, 1) := by decide +kernel
theorem dX9_restore_51 : decode cX9_restore 51 = .ok (.iinc 3 1, 3) := by decide +kernel
theorem dX9_restore_54 : decode cX9_restore 54 = .ok (.goto (-23), 3) := by decide +kernel
theorem dX9_restore_57 : decode cX9_restore 57 = .ok (.iconst 0, 1) := by decide +kernel
theorem dX9_restore_58 : decode cX9_restore 58 = .ok (.istore_n 3, 1) := by decide +kernel
theorem dX9_restore_59 : decode cX9_restore 59 = .ok (.iload_n 3, 1) := by decide +kernel
theorem dX9_restore_60 : decode cX9_restore 60 = .ok (.bipush 16, 2) := by decide +kernel
theorem dX9_restore_62 : decode cX9_restore 62 = .ok (.if_icmp .ge 26, 3) := by decide +kernel
theorem dX9_restore_65 : decode cX9_restore 65 = .ok (.aload_n 0, 1) := by decide +kernel
theorem dX9_restore_66 : decode cX9_restore 66 = .ok (.getfield 16, 3) := by decide +kernel
theorem dX9_restore_69 : decode cX9_restore 69 = .ok (.iload_n 3, 1) := by decide +kernel
theorem dX9_restore_70 : decode cX9_restore 70 = .ok (.aload_n 0, 1) := by decide +kernel
theorem dX9_restore_71 : decode cX9_restore 71 = .ok (.getfield 44, 3) := by decide +kernel
theorem dX9_restore_74 : decode cX9_restore 74 = .ok (.iload_n 2, 1) := by decide +kernel
theorem dX9_restore_75 : decode cX9_restore 75 = .ok (.bipush 63, 2) := by decide +kernel
theorem dX9_restore_77 : decode cX9_restore 77 = .ok (.iadd, 1) := by decide +kernel
theorem dX9_restore_78 : decode cX9_restore 78 = .ok (.iload_n 3, 1) := by decide +kernel
theorem dX9_restore_79 : decode cX9_restore 79 = .ok (.iadd, 1) := by decide +kernel
theorem dX9_restore_80 : decode cX9_restore 80 = .ok (.iaload, 1) := by decide +kernel
theorem dX9_restore_81 : decode cX9_restore 81 = .ok (.iastore, 1) := by decide +kernel
theorem dX9_restore_82 : decode cX9_restore 82 = .ok (.iinc 3 1, 3) := by decide +kernel
theorem dX9_restore_85 : decode cX9_restore 85 = .ok (.goto (-26), 3) := by decide +kernel
theorem dX9_restore_88 : decode cX9_restore 88 = .ok (.aload_n 0, 1) := by decide +kernel
theorem dX9_restore_89 : decode cX9_restore 89 = .ok (.aload_n 0, 1) := by decide +kernel
theorem dX9_restore_90 : decode cX9_restore 90 = .ok (.getfield 44, 3) := by decide +kernel
theorem dX9_restore_93 : decode cX9_restore 93 = .ok (.iload_n 2, 1) := by decide +kernel
theorem dX9_restore_94 : decode cX9_restore 94 = .ok (.bipush 80, 2) := by decide +kernel
theorem dX9_restore_96 : decode cX9_restore 96 = .ok (.iadd, 1) := by decide +kernel
theorem dX9_restore_97 : decode cX9_restore 97 = .ok (.iaload, 1) := by decide +kernel
theorem dX9_restore_98 : decode cX9_restore 98 = .ok (.putfield 161, 3) := by decide +kernel
theorem dX9_restore_101 : decode cX9_restore 101 = .ok (.iconst 1, 1) := by decide +kernel
theorem dX9_restore_102 : decode cX9_restore 102 = .ok (.ireturn, 1) := by decide +kernel
theorem dX9_told_0 : decode cX9_told 0 = .ok (.iload_n 1, 1) := by decide +kernel
theorem dX9_told_1 : decode cX9_told 1 = .ok (.sipush 200, 3) := by decide +kernel
theorem dX9_told_4 : decode cX9_told 4 = .ok (.if_icmp .lt 30, 3) := by decide +kernel
theorem dX9_told_7 : decode cX9_told 7 = .ok (.iload_n 1, 1) := by decide +kernel
theorem dX9_told_8 : decode cX9_told 8 = .ok (.sipush 200, 3) := by decide +kernel
theorem dX9_told_11 : decode cX9_told 11 = .ok (.isub, 1) := by decide +kernel
theorem dX9_told_12 : decode cX9_told 12 = .ok (.invokestatic 59, 3) := by decide +kernel
theorem dX9_told_15 : decode cX9_told 15 = .ok (.ifCond .eq 16, 3) := by decide +kernel
theorem dX9_told_18 : decode cX9_told 18 = .ok (.aload_n 0, 1) := by decide +kernel
theorem dX9_told_19 : decode cX9_told 19 = .ok (.getfield 7, 3) := by decide +kernel
theorem dX9_told_22 : decode cX9_told 22 = .ok (.iload_n 1, 1) := by decide +kernel
theorem dX9_told_23 : decode cX9_told 23 = .ok (.sipush 175, 3) := by decide +kernel
theorem dX9_told_26 : decode cX9_told 26 = .ok (.isub, 1) := by decide +kernel
theorem dX9_told_27 : decode cX9_told 27 = .ok (.iaload, 1) := by decide +kernel
theorem dX9_told_28 : decode cX9_told 28 = .ok (.goto 5, 3) := by decide +kernel
theorem dX9_told_31 : decode cX9_told 31 = .ok (.bipush (-2), 2) := by decide +kernel
theorem dX9_told_33 : decode cX9_told 33 = .ok (.ireturn, 1) := by decide +kernel
theorem dX9_told_34 : decode cX9_told 34 = .ok (.iload_n 1, 1) := by decide +kernel
theorem dX9_told_35 : decode cX9_told 35 = .ok (.bipush 100, 2) := by decide +kernel
theorem dX9_told_37 : decode cX9_told 37 = .ok (.if_icmp .lt 28, 3) := by decide +kernel
theorem dX9_told_40 : decode cX9_told 40 = .ok (.iload_n 1, 1) := by decide +kernel
theorem dX9_told_41 : decode cX9_told 41 = .ok (.bipush 100, 2) := by decide +kernel
theorem dX9_told_43 : decode cX9_told 43 = .ok (.isub, 1) := by decide +kernel
theorem dX9_told_44 : decode cX9_told 44 = .ok (.invokestatic 59, 3) := by decide +kernel
theorem dX9_told_47 : decode cX9_told 47 = .ok (.ifCond .eq 15, 3) := by decide +kernel
theorem dX9_told_50 : decode cX9_told 50 = .ok (.aload_n 0, 1) := by decide +kernel
theorem dX9_told_51 : decode cX9_told 51 = .ok (.getfield 7, 3) := by decide +kernel
theorem dX9_told_54 : decode cX9_told 54 = .ok (.iload_n 1, 1) := by decide +kernel
theorem dX9_told_55 : decode cX9_told 55 = .ok (.bipush 100, 2) := by decide +kernel
theorem dX9_told_57 : decode cX9_told 57 = .ok (.isub, 1) := by decide +kernel
theorem dX9_told_58 : decode cX9_told 58 = .ok (.iaload, 1) := by decide +kernel
theorem dX9_told_59 : decode cX9_told 59 = .ok (.goto 5, 3) := by decide +kernel
theorem dX9_told_62 : decode cX9_told 62 = .ok (.bipush (-2), 2) := by decide +kernel
theorem dX9_told_64 : decode cX9_told 64 = .ok (.ireturn, 1) := by decide +kernel
theorem dX9_told_65 : decode cX9_told 65 = .ok (.iload_n 1, 1) := by decide +kernel
theorem dX9_told_66 : decode cX9_told 66 = .ok (.bipush 20, 2) := by decide +kernel
theorem dX9_told_68 : decode cX9_told 68 = .ok (.if_icmp .lt 45, 3) := by decide +kernel
theorem dX9_told_71 : decode cX9_told 71 = .ok (.iload_n 1, 1) := by decide +kernel
theorem dX9_told_72 : decode cX9_told 72 = .ok (.bipush 40, 2) := by decide +kernel
theorem dX9_told_74 : decode cX9_told 74 = .ok (.if_icmp .ge 36, 3) := by decide +kernel
theorem dX9_told_77 : decode cX9_told 77 = .ok (.aload_n 0, 1) := by decide +kernel
theorem dX9_told_78 : decode cX9_told 78 = .ok (.iload_n 1, 1) := by decide +kernel
theorem dX9_told_79 : decode cX9_told 79 = .ok (.bipush 10, 2) := by decide +kernel
theorem dX9_told_81 : decode cX9_told 81 = .ok (.irem, 1) := by decide +kernel
theorem dX9_told_82 : decode cX9_told 82 = .ok (.invokevirtual 134, 3) := by decide +kernel
theorem dX9_told_85 : decode cX9_told 85 = .ok (.ifCond .eq 25, 3) := by decide +kernel
theorem dX9_told_88 : decode cX9_told 88 = .ok (.aload_n 0, 1) := by decide +kernel
theorem dX9_told_89 : decode cX9_told 89 = .ok (.getfield 7, 3) := by decide +kernel
theorem dX9_told_92 : decode cX9_told 92 = .ok (.bipush 42, 2) := by decide +kernel
theorem dX9_told_94 : decode cX9_told 94 = .ok (.iload_n 1, 1) := by decide +kernel
theorem dX9_told_95 : decode cX9_told 95 = .ok (.bipush 10, 2) := by decide +kernel
theorem dX9_told_97 : decode cX9_told 97 = .ok (.idiv, 1) := by decide +kernel
theorem dX9_told_98 : decode cX9_told 98 = .ok (.iconst 4, 1) := by decide +kernel
theorem dX9_told_99 : decode cX9_told 99 = .ok (.imul, 1) := by decide +kernel
theorem dX9_told_100 : decode cX9_told 100 = .ok (.iadd, 1) := by decide +kernel
theorem dX9_told_101 : decode cX9_told 101 = .ok (.iload_n 1, 1) := by decide +kernel
theorem dX9_told_102 : decode cX9_told 102 = .ok (.bipush 10, 2) := by decide +kernel
theorem dX9_told_104 : decode cX9_told 104 = .ok (.irem, 1) := by decide +kernel
theorem dX9_told_105 : decode cX9_told 105 = .ok (.iadd, 1) := by decide +kernel
theorem dX9_told_106 : decode cX9_told 106 = .ok (.iaload, 1) := by decide +kernel
theorem dX9_told_107 : decode cX9_told 107 = .ok (.goto 5, 3) := by decide +kernel
theorem dX9_told_110 : decode cX9_told 110 = .ok (.bipush (-2), 2) := by decide +kernel
theorem dX9_told_112 : decode cX9_told 112 = .ok (.ireturn, 1) := by decide +kernel
theorem dX9_told_113 : decode cX9_told 113 = .ok (.aload_n 0, 1) := by decide +kernel
theorem dX9_told_114 : decode cX9_told 114 = .ok (.invokevirtual 116, 3) := by decide +kernel
theorem dX9_told_117 : decode cX9_told 117 = .ok (.iload_n 1, 1) := by decide +kernel
theorem dX9_told_118 : decode cX9_told 118 = .ok (.bipush 11, 2) := by decide +kernel
theorem dX9_told_120 : decode cX9_told 120 = .ok (.bipush 13, 2) := by decide +kernel
theorem dX9_told_122 : decode cX9_told 122 = .ok (.invokestatic 51, 3) := by decide +kernel
theorem dX9_told_125 : decode cX9_told 125 = .ok (.ifCond .eq 13, 3) := by decide +kernel
theorem dX9_told_128 : decode cX9_told 128 = .ok (.aload_n 0, 1) := by decide +kernel
theorem dX9_told_129 : decode cX9_told 129 = .ok (.getfield 7, 3) := by decide +kernel
theorem dX9_told_132 : decode cX9_told 132 = .ok (.bipush 47, 2) := by decide +kernel
theorem dX9_told_134 : decode cX9_told 134 = .ok (.iload_n 1, 1) := by decide +kernel
theorem dX9_told_135 : decode cX9_told 135 = .ok (.iadd, 1) := by decide +kernel
theorem dX9_told_136 : decode cX9_told 136 = .ok (.iaload, 1) := by decide +kernel
theorem dX9_told_137 : decode cX9_told 137 = .ok (.ireturn, 1) := by decide +kernel
theorem dX9_told_138 : decode cX9_told 138 = .ok (.iload_n 1, 1) := by decide +kernel
theorem dX9_told_139 : decode cX9_told 139 = .ok (.tableswitch 56 0 3 #[29, 34, 42, 50], 29) := by decide +kernel
theorem dX9_told_168 : decode cX9_told 168 = .ok (.aload_n 0, 1) := by decide +kernel
theorem dX9_told_169 : decode cX9_told 169 = .ok (.getfield 63, 3) := by decide +kernel
theorem dX9_told_172 : decode cX9_told 172 = .ok (.ireturn, 1) := by decide +kernel
theorem dX9_told_173 : decode cX9_told 173 = .ok (.aload_n 0, 1) := by decide +kernel
theorem dX9_told_174 : decode cX9_told 174 = .ok (.getfield 7, 3) := by decide +kernel
theorem dX9_told_177 : decode cX9_told 177 = .ok (.bipush 61, 2) := by decide +kernel
theorem dX9_told_179 : decode cX9_told 179 = .ok (.iaload, 1) := by decide +kernel
theorem dX9_told_180 : decode cX9_told 180 = .ok (.ireturn, 1) := by decide +kernel
theorem dX9_told_181 : decode cX9_told 181 = .ok (.aload_n 0, 1) := by decide +kernel
theorem dX9_told_182 : decode cX9_told 182 = .ok (.getfield 7, 3) := by decide +kernel
theorem dX9_told_185 : decode cX9_told 185 = .ok (.bipush 62, 2) := by decide +kernel
theorem dX9_told_187 : decode cX9_told 187 = .ok (.iaload, 1) := by decide +kernel
theorem dX9_told_188 : decode cX9_told 188 = .ok (.ireturn, 1) := by decide +kernel
theorem dX9_told_189 : decode cX9_told 189 = .ok (.aload_n 0, 1) := by decide +kernel
theorem dX9_told_190 : decode cX9_told 190 = .ok (.iconst 0, 1) := by decide +kernel
theorem dX9_told_191 : decode cX9_told 191 = .ok (.invokevirtual 137, 3) := by decide +kernel
theorem dX9_told_194 : decode cX9_told 194 = .ok (.ireturn, 1) := by decide +kernel
theorem dX9_told_195 : decode cX9_told 195 = .ok (.iload_n 1, 1) := by decide +kernel
theorem dX9_told_196 : decode cX9_told 196 = .ok (.iconst 4, 1) := by decide +kernel
theorem dX9_told_197 : decode cX9_told 197 = .ok (.if_icmp .ne 10, 3) := by decide +kernel
theorem dX9_told_200 : decode cX9_told 200 = .ok (.aload_n 0, 1) := by decide +kernel
theorem dX9_told_201 : decode cX9_told 201 = .ok (.getfield 161, 3) := by decide +kernel
theorem dX9_told_204 : decode cX9_told 204 = .ok (.goto 5, 3) := by decide +kernel
theorem dX9_told_207 : decode cX9_told 207 = .ok (.bipush (-2), 2) := by decide +kernel
theorem dX9_told_209 : decode cX9_told 209 = .ok (.ireturn, 1) := by decide +kernel
theorem dJ6_lowestOneBit_0f7a4_0 : decode cJ6_lowestOneBit_0f7a4 0 = .ok (.iload_n 0, 1) := by decide +kernel
theorem dJ6_lowestOneBit_0f7a4_1 : decode cJ6_lowestOneBit_0f7a4 1 = .ok (.iload_n 0, 1) := by decide +kernel
theorem dJ6_lowestOneBit_0f7a4_2 : decode cJ6_lowestOneBit_0f7a4 2 = .ok (.ineg, 1) := by decide +kernel
theorem dJ6_lowestOneBit_0f7a4_3 : decode cJ6_lowestOneBit_0f7a4 3 = .ok (.iand, 1) := by decide +kernel
theorem dJ6_lowestOneBit_0f7a4_4 : decode cJ6_lowestOneBit_0f7a4 4 = .ok (.ireturn, 1) := by decide +kernel
theorem dJ6_bitCount_0f7a4_0 : decode cJ6_bitCount_0f7a4 0 = .ok (.iload_n 0, 1) := by decide +kernel
theorem dJ6_bitCount_0f7a4_1 : decode cJ6_bitCount_0f7a4 1 = .ok (.iload_n 0, 1) := by decide +kernel
theorem dJ6_bitCount_0f7a4_2 : decode cJ6_bitCount_0f7a4 2 = .ok (.iconst 1, 1) := by decide +kernel
theorem dJ6_bitCount_0f7a4_3 : decode cJ6_bitCount_0f7a4 3 = .ok (.iushr, 1) := by decide +kernel
theorem dJ6_bitCount_0f7a4_4 : decode cJ6_bitCount_0f7a4 4 = .ok (.ldc_w 265, 3) := by decide +kernel
theorem dJ6_bitCount_0f7a4_7 : decode cJ6_bitCount_0f7a4 7 = .ok (.iand, 1) := by decide +kernel
theorem dJ6_bitCount_0f7a4_8 : decode cJ6_bitCount_0f7a4 8 = .ok (.isub, 1) := by decide +kernel
theorem dJ6_bitCount_0f7a4_9 : decode cJ6_bitCount_0f7a4 9 = .ok (.istore_n 0, 1) := by decide +kernel
theorem dJ6_bitCount_0f7a4_10 : decode cJ6_bitCount_0f7a4 10 = .ok (.iload_n 0, 1) := by decide +kernel
theorem dJ6_bitCount_0f7a4_11 : decode cJ6_bitCount_0f7a4 11 = .ok (.ldc_w 266, 3) := by decide +kernel
theorem dJ6_bitCount_0f7a4_14 : decode cJ6_bitCount_0f7a4 14 = .ok (.iand, 1) := by decide +kernel
theorem dJ6_bitCount_0f7a4_15 : decode cJ6_bitCount_0f7a4 15 = .ok (.iload_n 0, 1) := by decide +kernel
theorem dJ6_bitCount_0f7a4_16 : decode cJ6_bitCount_0f7a4 16 = .ok (.iconst 2, 1) := by decide +kernel
theorem dJ6_bitCount_0f7a4_17 : decode cJ6_bitCount_0f7a4 17 = .ok (.iushr, 1) := by decide +kernel
theorem dJ6_bitCount_0f7a4_18 : decode cJ6_bitCount_0f7a4 18 = .ok (.ldc_w 266, 3) := by decide +kernel
theorem dJ6_bitCount_0f7a4_21 : decode cJ6_bitCount_0f7a4 21 = .ok (.iand, 1) := by decide +kernel
theorem dJ6_bitCount_0f7a4_22 : decode cJ6_bitCount_0f7a4 22 = .ok (.iadd, 1) := by decide +kernel
theorem dJ6_bitCount_0f7a4_23 : decode cJ6_bitCount_0f7a4 23 = .ok (.istore_n 0, 1) := by decide +kernel
theorem dJ6_bitCount_0f7a4_24 : decode cJ6_bitCount_0f7a4 24 = .ok (.iload_n 0, 1) := by decide +kernel
theorem dJ6_bitCount_0f7a4_25 : decode cJ6_bitCount_0f7a4 25 = .ok (.iload_n 0, 1) := by decide +kernel
theorem dJ6_bitCount_0f7a4_26 : decode cJ6_bitCount_0f7a4 26 = .ok (.iconst 4, 1) := by decide +kernel
theorem dJ6_bitCount_0f7a4_27 : decode cJ6_bitCount_0f7a4 27 = .ok (.iushr, 1) := by decide +kernel
theorem dJ6_bitCount_0f7a4_28 : decode cJ6_bitCount_0f7a4 28 = .ok (.iadd, 1) := by decide +kernel
theorem dJ6_bitCount_0f7a4_29 : decode cJ6_bitCount_0f7a4 29 = .ok (.ldc_w 267, 3) := by decide +kernel
theorem dJ6_bitCount_0f7a4_32 : decode cJ6_bitCount_0f7a4 32 = .ok (.iand, 1) := by decide +kernel
theorem dJ6_bitCount_0f7a4_33 : decode cJ6_bitCount_0f7a4 33 = .ok (.istore_n 0, 1) := by decide +kernel
theorem dJ6_bitCount_0f7a4_34 : decode cJ6_bitCount_0f7a4 34 = .ok (.iload_n 0, 1) := by decide +kernel
theorem dJ6_bitCount_0f7a4_35 : decode cJ6_bitCount_0f7a4 35 = .ok (.iload_n 0, 1) := by decide +kernel
theorem dJ6_bitCount_0f7a4_36 : decode cJ6_bitCount_0f7a4 36 = .ok (.bipush 8, 2) := by decide +kernel
theorem dJ6_bitCount_0f7a4_38 : decode cJ6_bitCount_0f7a4 38 = .ok (.iushr, 1) := by decide +kernel
theorem dJ6_bitCount_0f7a4_39 : decode cJ6_bitCount_0f7a4 39 = .ok (.iadd, 1) := by decide +kernel
theorem dJ6_bitCount_0f7a4_40 : decode cJ6_bitCount_0f7a4 40 = .ok (.istore_n 0, 1) := by decide +kernel
theorem dJ6_bitCount_0f7a4_41 : decode cJ6_bitCount_0f7a4 41 = .ok (.iload_n 0, 1) := by decide +kernel
theorem dJ6_bitCount_0f7a4_42 : decode cJ6_bitCount_0f7a4 42 = .ok (.iload_n 0, 1) := by decide +kernel
theorem dJ6_bitCount_0f7a4_43 : decode cJ6_bitCount_0f7a4 43 = .ok (.bipush 16, 2) := by decide +kernel
theorem dJ6_bitCount_0f7a4_45 : decode cJ6_bitCount_0f7a4 45 = .ok (.iushr, 1) := by decide +kernel
theorem dJ6_bitCount_0f7a4_46 : decode cJ6_bitCount_0f7a4 46 = .ok (.iadd, 1) := by decide +kernel
theorem dJ6_bitCount_0f7a4_47 : decode cJ6_bitCount_0f7a4 47 = .ok (.istore_n 0, 1) := by decide +kernel
theorem dJ6_bitCount_0f7a4_48 : decode cJ6_bitCount_0f7a4 48 = .ok (.iload_n 0, 1) := by decide +kernel
theorem dJ6_bitCount_0f7a4_49 : decode cJ6_bitCount_0f7a4 49 = .ok (.bipush 63, 2) := by decide +kernel
theorem dJ6_bitCount_0f7a4_51 : decode cJ6_bitCount_0f7a4 51 = .ok (.iand, 1) := by decide +kernel
theorem dJ6_bitCount_0f7a4_52 : decode cJ6_bitCount_0f7a4 52 = .ok (.ireturn, 1) := by decide +kernel
theorem dJ9_max_7cf53_0 : decode cJ9_max_7cf53 0 = .ok (.iload_n 0, 1) := by decide +kernel
theorem dJ9_max_7cf53_1 : decode cJ9_max_7cf53 1 = .ok (.iload_n 1, 1) := by decide +kernel
theorem dJ9_max_7cf53_2 : decode cJ9_max_7cf53 2 = .ok (.if_icmp .lt 7, 3) := by decide +kernel
theorem dJ9_max_7cf53_5 : decode cJ9_max_7cf53 5 = .ok (.iload_n 0, 1) := by decide +kernel
theorem dJ9_max_7cf53_6 : decode cJ9_max_7cf53 6 = .ok (.goto 4, 3) := by decide +kernel
theorem dJ9_max_7cf53_9 : decode cJ9_max_7cf53 9 = .ok (.iload_n 1, 1) := by decide +kernel
theorem dJ9_max_7cf53_10 : decode cJ9_max_7cf53 10 = .ok (.ireturn, 1) := by decide +kernel
theorem dJ9_min_7cf53_0 : decode cJ9_min_7cf53 0 = .ok (.iload_n 0, 1) := by decide +kernel
theorem dJ9_min_7cf53_1 : decode cJ9_min_7cf53 1 = .ok (.iload_n 1, 1) := by decide +kernel
theorem dJ9_min_7cf53_2 : decode cJ9_min_7cf53 2 = .ok (.if_icmp .gt 7, 3) := by decide +kernel
theorem dJ9_min_7cf53_5 : decode cJ9_min_7cf53 5 = .ok (.iload_n 0, 1) := by decide +kernel
theorem dJ9_min_7cf53_6 : decode cJ9_min_7cf53 6 = .ok (.goto 4, 3) := by decide +kernel
theorem dJ9_min_7cf53_9 : decode cJ9_min_7cf53 9 = .ok (.iload_n 1, 1) := by decide +kernel
theorem dJ9_min_7cf53_10 : decode cJ9_min_7cf53 10 = .ok (.ireturn, 1) := by decide +kernel
theorem dL_law_0 : decode cL_law 0 = .ok (.new 7, 3) := by decide +kernel
theorem dL_law_3 : decode cL_law 3 = .ok (.dup, 1) := by decide +kernel
theorem dL_law_4 : decode cL_law 4 = .ok (.invokespecial 9, 3) := by decide +kernel
theorem dL_law_7 : decode cL_law 7 = .ok (.astore_n 1, 1) := by decide +kernel
theorem dL_law_8 : decode cL_law 8 = .ok (.new 10, 3) := by decide +kernel
theorem dL_law_11 : decode cL_law 11 = .ok (.dup, 1) := by decide +kernel
theorem dL_law_12 : decode cL_law 12 = .ok (.invokespecial 12, 3) := by decide +kernel
theorem dL_law_15 : decode cL_law 15 = .ok (.astore_n 2, 1) := by decide +kernel
theorem dL_law_16 : decode cL_law 16 = .ok (.iconst 0, 1) := by decide +kernel
theorem dL_law_17 : decode cL_law 17 = .ok (.istore_n 3, 1) := by decide +kernel
theorem dL_law_18 : decode cL_law 18 = .ok (.iload_n 3, 1) := by decide +kernel
theorem dL_law_19 : decode cL_law 19 = .ok (.aload_n 0, 1) := by decide +kernel
theorem dL_law_20 : decode cL_law 20 = .ok (.arraylength, 1) := by decide +kernel
theorem dL_law_21 : decode cL_law 21 = .ok (.bipush 8, 2) := by decide +kernel
theorem dL_law_23 : decode cL_law 23 = .ok (.isub, 1) := by decide +kernel
theorem dL_law_24 : decode cL_law 24 = .ok (.if_icmp .gt 944, 3) := by decide +kernel
theorem dL_law_27 : decode cL_law 27 = .ok (.aload_n 0, 1) := by decide +kernel
theorem dL_law_28 : decode cL_law 28 = .ok (.iload_n 3, 1) := by decide +kernel
theorem dL_law_29 : decode cL_law 29 = .ok (.iaload, 1) := by decide +kernel
theorem dL_law_30 : decode cL_law 30 = .ok (.bipush 31, 2) := by decide +kernel
theorem dL_law_32 : decode cL_law 32 = .ok (.iand, 1) := by decide +kernel
theorem dL_law_33 : decode cL_law 33 = .ok (.tableswitch 929 0 26 #[123, 156, 189, 232, 265, 288, 301, 314, 337, 350, 383, 416, 439, 472, 515, 548, 571, 604, 637, 650, 673, 696, 729, 817, 860, 883, 906], 123) := by decide +kernel
theorem dL_law_156 : decode cL_law 156 = .ok (.aload_n 1, 1) := by decide +kernel
theorem dL_law_157 : decode cL_law 157 = .ok (.aload_n 0, 1) := by decide +kernel
theorem dL_law_158 : decode cL_law 158 = .ok (.iload_n 3, 1) := by decide +kernel
theorem dL_law_159 : decode cL_law 159 = .ok (.iconst 1, 1) := by decide +kernel
theorem dL_law_160 : decode cL_law 160 = .ok (.iadd, 1) := by decide +kernel
theorem dL_law_161 : decode cL_law 161 = .ok (.iaload, 1) := by decide +kernel
theorem dL_law_162 : decode cL_law 162 = .ok (.aload_n 0, 1) := by decide +kernel
theorem dL_law_163 : decode cL_law 163 = .ok (.iload_n 3, 1) := by decide +kernel
theorem dL_law_164 : decode cL_law 164 = .ok (.iconst 2, 1) := by decide +kernel
theorem dL_law_165 : decode cL_law 165 = .ok (.iadd, 1) := by decide +kernel
theorem dL_law_166 : decode cL_law 166 = .ok (.iaload, 1) := by decide +kernel
theorem dL_law_167 : decode cL_law 167 = .ok (.invokevirtual 13, 3) := by decide +kernel
theorem dL_law_170 : decode cL_law 170 = .ok (.aload_n 2, 1) := by decide +kernel
theorem dL_law_171 : decode cL_law 171 = .ok (.aload_n 0, 1) := by decide +kernel
theorem dL_law_172 : decode cL_law 172 = .ok (.iload_n 3, 1) := by decide +kernel
theorem dL_law_173 : decode cL_law 173 = .ok (.iconst 1, 1) := by decide +kernel
theorem dL_law_174 : decode cL_law 174 = .ok (.iadd, 1) := by decide +kernel
theorem dL_law_175 : decode cL_law 175 = .ok (.iaload, 1) := by decide +kernel
theorem dL_law_176 : decode cL_law 176 = .ok (.aload_n 0, 1) := by decide +kernel
theorem dL_law_177 : decode cL_law 177 = .ok (.iload_n 3, 1) := by decide +kernel
theorem dL_law_178 : decode cL_law 178 = .ok (.iconst 2, 1) := by decide +kernel
theorem dL_law_179 : decode cL_law 179 = .ok (.iadd, 1) := by decide +kernel
theorem dL_law_180 : decode cL_law 180 = .ok (.iaload, 1) := by decide +kernel
theorem dL_law_181 : decode cL_law 181 = .ok (.invokevirtual 17, 3) := by decide +kernel
theorem dL_law_184 : decode cL_law 184 = .ok (.if_icmp .eq 778, 3) := by decide +kernel
theorem dL_law_187 : decode cL_law 187 = .ok (.iconst 0, 1) := by decide +kernel
theorem dL_law_188 : decode cL_law 188 = .ok (.ireturn, 1) := by decide +kernel
theorem dL_law_189 : decode cL_law 189 = .ok (.aload_n 1, 1) := by decide +kernel
theorem dL_law_190 : decode cL_law 190 = .ok (.aload_n 0, 1) := by decide +kernel
theorem dL_law_191 : decode cL_law 191 = .ok (.iload_n 3, 1) := by decide +kernel
theorem dL_law_192 : decode cL_law 192 = .ok (.iconst 1, 1) := by decide +kernel
theorem dL_law_193 : decode cL_law 193 = .ok (.iadd, 1) := by decide +kernel
theorem dL_law_194 : decode cL_law 194 = .ok (.iaload, 1) := by decide +kernel
theorem dL_law_195 : decode cL_law 195 = .ok (.aload_n 0, 1) := by decide +kernel
theorem dL_law_196 : decode cL_law 196 = .ok (.iload_n 3, 1) := by decide +kernel
theorem dL_law_197 : decode cL_law 197 = .ok (.iconst 2, 1) := by decide +kernel
theorem dL_law_198 : decode cL_law 198 = .ok (.iadd, 1) := by decide +kernel
theorem dL_law_199 : decode cL_law 199 = .ok (.iaload, 1) := by decide +kernel
theorem dL_law_200 : decode cL_law 200 = .ok (.invokevirtual 18, 3) := by decide +kernel
theorem dL_law_203 : decode cL_law 203 = .ok (.aload_n 2, 1) := by decide +kernel
theorem dL_law_204 : decode cL_law 204 = .ok (.aload_n 0, 1) := by decide +kernel
theorem dL_law_205 : decode cL_law 205 = .ok (.iload_n 3, 1) := by decide +kernel
theorem dL_law_206 : decode cL_law 206 = .ok (.iconst 1, 1) := by decide +kernel
theorem dL_law_207 : decode cL_law 207 = .ok (.iadd, 1) := by decide +kernel
theorem dL_law_208 : decode cL_law 208 = .ok (.iaload, 1) := by decide +kernel
theorem dL_law_209 : decode cL_law 209 = .ok (.aload_n 0, 1) := by decide +kernel
theorem dL_law_210 : decode cL_law 210 = .ok (.iload_n 3, 1) := by decide +kernel
theorem dL_law_211 : decode cL_law 211 = .ok (.iconst 2, 1) := by decide +kernel
theorem dL_law_212 : decode cL_law 212 = .ok (.iadd, 1) := by decide +kernel
theorem dL_law_213 : decode cL_law 213 = .ok (.iaload, 1) := by decide +kernel
theorem dL_law_214 : decode cL_law 214 = .ok (.invokevirtual 21, 3) := by decide +kernel
theorem dL_law_217 : decode cL_law 217 = .ok (.if_icmp .eq 745, 3) := by decide +kernel
theorem dL_law_220 : decode cL_law 220 = .ok (.iconst 0, 1) := by decide +kernel
theorem dL_law_221 : decode cL_law 221 = .ok (.ireturn, 1) := by decide +kernel
theorem dL_law_222 : decode cL_law 222 = .ok (.aload_n 1, 1) := by decide +kernel
theorem dL_law_223 : decode cL_law 223 = .ok (.aload_n 0, 1) := by decide +kernel
theorem dL_law_224 : decode cL_law 224 = .ok (.iload_n 3, 1) := by decide +kernel
theorem dL_law_225 : decode cL_law 225 = .ok (.iconst 1, 1) := by decide +kernel
theorem dL_law_226 : decode cL_law 226 = .ok (.iadd, 1) := by decide +kernel
theorem dL_law_227 : decode cL_law 227 = .ok (.iaload, 1) := by decide +kernel
theorem dL_law_228 : decode cL_law 228 = .ok (.aload_n 0, 1) := by decide +kernel
theorem dL_law_229 : decode cL_law 229 = .ok (.iload_n 3, 1) := by decide +kernel
theorem dL_law_230 : decode cL_law 230 = .ok (.iconst 2, 1) := by decide +kernel
theorem dL_law_231 : decode cL_law 231 = .ok (.iadd, 1) := by decide +kernel
theorem dL_law_232 : decode cL_law 232 = .ok (.iaload, 1) := by decide +kernel
theorem dL_law_233 : decode cL_law 233 = .ok (.aload_n 0, 1) := by decide +kernel
theorem dL_law_234 : decode cL_law 234 = .ok (.iload_n 3, 1) := by decide +kernel
theorem dL_law_235 : decode cL_law 235 = .ok (.iconst 3, 1) := by decide +kernel
theorem dL_law_236 : decode cL_law 236 = .ok (.iadd, 1) := by decide +kernel
theorem dL_law_237 : decode cL_law 237 = .ok (.iaload, 1) := by decide +kernel
theorem dL_law_238 : decode cL_law 238 = .ok (.invokevirtual 22, 3) := by decide +kernel
theorem dL_law_241 : decode cL_law 241 = .ok (.aload_n 2, 1) := by decide +kernel
theorem dL_law_242 : decode cL_law 242 = .ok (.aload_n 0, 1) := by decide +kernel
theorem dL_law_243 : decode cL_law 243 = .ok (.iload_n 3, 1) := by decide +kernel
theorem dL_law_244 : decode cL_law 244 = .ok (.iconst 1, 1) := by decide +kernel
theorem dL_law_245 : decode cL_law 245 = .ok (.iadd, 1) := by decide +kernel
theorem dL_law_246 : decode cL_law 246 = .ok (.iaload, 1) := by decide +kernel
theorem dL_law_247 : decode cL_law 247 = .ok (.aload_n 0, 1) := by decide +kernel
theorem dL_law_248 : decode cL_law 248 = .ok (.iload_n 3, 1) := by decide +kernel
theorem dL_law_249 : decode cL_law 249 = .ok (.iconst 2, 1) := by decide +kernel
theorem dL_law_250 : decode cL_law 250 = .ok (.iadd, 1) := by decide +kernel
theorem dL_law_251 : decode cL_law 251 = .ok (.iaload, 1) := by decide +kernel
theorem dL_law_252 : decode cL_law 252 = .ok (.aload_n 0, 1) := by decide +kernel
theorem dL_law_253 : decode cL_law 253 = .ok (.iload_n 3, 1) := by decide +kernel
theorem dL_law_254 : decode cL_law 254 = .ok (.iconst 3, 1) := by decide +kernel
theorem dL_law_255 : decode cL_law 255 = .ok (.iadd, 1) := by decide +kernel
theorem dL_law_256 : decode cL_law 256 = .ok (.iaload, 1) := by decide +kernel
theorem dL_law_257 : decode cL_law 257 = .ok (.invokevirtual 26, 3) := by decide +kernel
theorem dL_law_260 : decode cL_law 260 = .ok (.if_icmp .eq 702, 3) := by decide +kernel
theorem dL_law_263 : decode cL_law 263 = .ok (.iconst 0, 1) := by decide +kernel
theorem dL_law_264 : decode cL_law 264 = .ok (.ireturn, 1) := by decide +kernel
theorem dL_law_265 : decode cL_law 265 = .ok (.aload_n 1, 1) := by decide +kernel
theorem dL_law_266 : decode cL_law 266 = .ok (.aload_n 0, 1) := by decide +kernel
theorem dL_law_267 : decode cL_law 267 = .ok (.iload_n 3, 1) := by decide +kernel
theorem dL_law_268 : decode cL_law 268 = .ok (.iconst 1, 1) := by decide +kernel
theorem dL_law_269 : decode cL_law 269 = .ok (.iadd, 1) := by decide +kernel
theorem dL_law_270 : decode cL_law 270 = .ok (.iaload, 1) := by decide +kernel
theorem dL_law_271 : decode cL_law 271 = .ok (.aload_n 0, 1) := by decide +kernel
theorem dL_law_272 : decode cL_law 272 = .ok (.iload_n 3, 1) := by decide +kernel
theorem dL_law_273 : decode cL_law 273 = .ok (.iconst 2, 1) := by decide +kernel
theorem dL_law_274 : decode cL_law 274 = .ok (.iadd, 1) := by decide +kernel
theorem dL_law_275 : decode cL_law 275 = .ok (.iaload, 1) := by decide +kernel
theorem dL_law_276 : decode cL_law 276 = .ok (.invokevirtual 27, 3) := by decide +kernel
theorem dL_law_279 : decode cL_law 279 = .ok (.aload_n 2, 1) := by decide +kernel
theorem dL_law_280 : decode cL_law 280 = .ok (.aload_n 0, 1) := by decide +kernel
theorem dL_law_281 : decode cL_law 281 = .ok (.iload_n 3, 1) := by decide +kernel
theorem dL_law_282 : decode cL_law 282 = .ok (.iconst 1, 1) := by decide +kernel
theorem dL_law_283 : decode cL_law 283 = .ok (.iadd, 1) := by decide +kernel
theorem dL_law_284 : decode cL_law 284 = .ok (.iaload, 1) := by decide +kernel
theorem dL_law_285 : decode cL_law 285 = .ok (.aload_n 0, 1) := by decide +kernel
theorem dL_law_286 : decode cL_law 286 = .ok (.iload_n 3, 1) := by decide +kernel
theorem dL_law_287 : decode cL_law 287 = .ok (.iconst 2, 1) := by decide +kernel
theorem dL_law_288 : decode cL_law 288 = .ok (.iadd, 1) := by decide +kernel
theorem dL_law_289 : decode cL_law 289 = .ok (.iaload, 1) := by decide +kernel
theorem dL_law_290 : decode cL_law 290 = .ok (.invokevirtual 30, 3) := by decide +kernel
theorem dL_law_293 : decode cL_law 293 = .ok (.if_icmp .eq 669, 3) := by decide +kernel
theorem dL_law_296 : decode cL_law 296 = .ok (.iconst 0, 1) := by decide +kernel
theorem dL_law_297 : decode cL_law 297 = .ok (.ireturn, 1) := by decide +kernel
theorem dL_law_298 : decode cL_law 298 = .ok (.aload_n 1, 1) := by decide +kernel
theorem dL_law_299 : decode cL_law 299 = .ok (.aload_n 0, 1) := by decide +kernel
theorem dL_law_300 : decode cL_law 300 = .ok (.iload_n 3, 1) := by decide +kernel
theorem dL_law_301 : decode cL_law 301 = .ok (.iconst 1, 1) := by decide +kernel
theorem dL_law_302 : decode cL_law 302 = .ok (.iadd, 1) := by decide +kernel
theorem dL_law_303 : decode cL_law 303 = .ok (.iaload, 1) := by decide +kernel
theorem dL_law_304 : decode cL_law 304 = .ok (.invokevirtual 31, 3) := by decide +kernel
theorem dL_law_307 : decode cL_law 307 = .ok (.aload_n 2, 1) := by decide +kernel
theorem dL_law_308 : decode cL_law 308 = .ok (.aload_n 0, 1) := by decide +kernel
theorem dL_law_309 : decode cL_law 309 = .ok (.iload_n 3, 1) := by decide +kernel
theorem dL_law_310 : decode cL_law 310 = .ok (.iconst 1, 1) := by decide +kernel
theorem dL_law_311 : decode cL_law 311 = .ok (.iadd, 1) := by decide +kernel
theorem dL_law_312 : decode cL_law 312 = .ok (.iaload, 1) := by decide +kernel
theorem dL_law_313 : decode cL_law 313 = .ok (.invokevirtual 35, 3) := by decide +kernel
theorem dL_law_316 : decode cL_law 316 = .ok (.if_icmp .eq 646, 3) := by decide +kernel
theorem dL_law_319 : decode cL_law 319 = .ok (.iconst 0, 1) := by decide +kernel
theorem dL_law_320 : decode cL_law 320 = .ok (.ireturn, 1) := by decide +kernel
theorem dL_law_321 : decode cL_law 321 = .ok (.aload_n 1, 1) := by decide +kernel
theorem dL_law_322 : decode cL_law 322 = .ok (.invokevirtual 36, 3) := by decide +kernel
theorem dL_law_325 : decode cL_law 325 = .ok (.aload_n 2, 1) := by decide +kernel
theorem dL_law_326 : decode cL_law 326 = .ok (.invokevirtual 40, 3) := by decide +kernel
theorem dL_law_329 : decode cL_law 329 = .ok (.if_icmp .eq 633, 3) := by decide +kernel
theorem dL_law_332 : decode cL_law 332 = .ok (.iconst 0, 1) := by decide +kernel
theorem dL_law_333 : decode cL_law 333 = .ok (.ireturn, 1) := by decide +kernel
theorem dL_law_334 : decode cL_law 334 = .ok (.aload_n 1, 1) := by decide +kernel
theorem dL_law_335 : decode cL_law 335 = .ok (.invokevirtual 41, 3) := by decide +kernel
theorem dL_law_338 : decode cL_law 338 = .ok (.aload_n 2, 1) := by decide +kernel
theorem dL_law_339 : decode cL_law 339 = .ok (.invokevirtual 44, 3) := by decide +kernel
theorem dL_law_342 : decode cL_law 342 = .ok (.if_icmp .eq 620, 3) := by decide +kernel
theorem dL_law_345 : decode cL_law 345 = .ok (.iconst 0, 1) := by decide +kernel
theorem dL_law_346 : decode cL_law 346 = .ok (.ireturn, 1) := by decide +kernel
theorem dL_law_347 : decode cL_law 347 = .ok (.aload_n 1, 1) := by decide +kernel
theorem dL_law_348 : decode cL_law 348 = .ok (.aload_n 0, 1) := by decide +kernel
theorem dL_law_349 : decode cL_law 349 = .ok (.iload_n 3, 1) := by decide +kernel
theorem dL_law_350 : decode cL_law 350 = .ok (.iconst 1, 1) := by decide +kernel
theorem dL_law_351 : decode cL_law 351 = .ok (.iadd, 1) := by decide +kernel
theorem dL_law_352 : decode cL_law 352 = .ok (.iaload, 1) := by decide +kernel
theorem dL_law_353 : decode cL_law 353 = .ok (.invokevirtual 45, 3) := by decide +kernel
theorem dL_law_356 : decode cL_law 356 = .ok (.aload_n 2, 1) := by decide +kernel
theorem dL_law_357 : decode cL_law 357 = .ok (.aload_n 0, 1) := by decide +kernel
theorem dL_law_358 : decode cL_law 358 = .ok (.iload_n 3, 1) := by decide +kernel
theorem dL_law_359 : decode cL_law 359 = .ok (.iconst 1, 1) := by decide +kernel
theorem dL_law_360 : decode cL_law 360 = .ok (.iadd, 1) := by decide +kernel
theorem dL_law_361 : decode cL_law 361 = .ok (.iaload, 1) := by decide +kernel
theorem dL_law_362 : decode cL_law 362 = .ok (.invokevirtual 48, 3) := by decide +kernel
theorem dL_law_365 : decode cL_law 365 = .ok (.if_icmp .eq 597, 3) := by decide +kernel
theorem dL_law_368 : decode cL_law 368 = .ok (.iconst 0, 1) := by decide +kernel
theorem dL_law_369 : decode cL_law 369 = .ok (.ireturn, 1) := by decide +kernel
theorem dL_law_370 : decode cL_law 370 = .ok (.aload_n 1, 1) := by decide +kernel
theorem dL_law_371 : decode cL_law 371 = .ok (.invokevirtual 49, 3) := by decide +kernel
theorem dL_law_374 : decode cL_law 374 = .ok (.aload_n 2, 1) := by decide +kernel
theorem dL_law_375 : decode cL_law 375 = .ok (.invokevirtual 52, 3) := by decide +kernel
theorem dL_law_378 : decode cL_law 378 = .ok (.if_icmp .eq 584, 3) := by decide +kernel
theorem dL_law_381 : decode cL_law 381 = .ok (.iconst 0, 1) := by decide +kernel
theorem dL_law_382 : decode cL_law 382 = .ok (.ireturn, 1) := by decide +kernel
theorem dL_law_383 : decode cL_law 383 = .ok (.aload_n 1, 1) := by decide +kernel
theorem dL_law_384 : decode cL_law 384 = .ok (.aload_n 0, 1) := by decide +kernel
theorem dL_law_385 : decode cL_law 385 = .ok (.iload_n 3, 1) := by decide +kernel
theorem dL_law_386 : decode cL_law 386 = .ok (.iconst 1, 1) := by decide +kernel
theorem dL_law_387 : decode cL_law 387 = .ok (.iadd, 1) := by decide +kernel
theorem dL_law_388 : decode cL_law 388 = .ok (.iaload, 1) := by decide +kernel
theorem dL_law_389 : decode cL_law 389 = .ok (.aload_n 0, 1) := by decide +kernel
theorem dL_law_390 : decode cL_law 390 = .ok (.iload_n 3, 1) := by decide +kernel
theorem dL_law_391 : decode cL_law 391 = .ok (.iconst 2, 1) := by decide +kernel
theorem dL_law_392 : decode cL_law 392 = .ok (.iadd, 1) := by decide +kernel
theorem dL_law_393 : decode cL_law 393 = .ok (.iaload, 1) := by decide +kernel
theorem dL_law_394 : decode cL_law 394 = .ok (.invokevirtual 53, 3) := by decide +kernel
theorem dL_law_397 : decode cL_law 397 = .ok (.aload_n 2, 1) := by decide +kernel
theorem dL_law_398 : decode cL_law 398 = .ok (.aload_n 0, 1) := by decide +kernel
theorem dL_law_399 : decode cL_law 399 = .ok (.iload_n 3, 1) := by decide +kernel
theorem dL_law_400 : decode cL_law 400 = .ok (.iconst 1, 1) := by decide +kernel
theorem dL_law_401 : decode cL_law 401 = .ok (.iadd, 1) := by decide +kernel
theorem dL_law_402 : decode cL_law 402 = .ok (.iaload, 1) := by decide +kernel
theorem dL_law_403 : decode cL_law 403 = .ok (.aload_n 0, 1) := by decide +kernel
theorem dL_law_404 : decode cL_law 404 = .ok (.iload_n 3, 1) := by decide +kernel
theorem dL_law_405 : decode cL_law 405 = .ok (.iconst 2, 1) := by decide +kernel
theorem dL_law_406 : decode cL_law 406 = .ok (.iadd, 1) := by decide +kernel
theorem dL_law_407 : decode cL_law 407 = .ok (.iaload, 1) := by decide +kernel
theorem dL_law_408 : decode cL_law 408 = .ok (.invokevirtual 56, 3) := by decide +kernel
theorem dL_law_411 : decode cL_law 411 = .ok (.if_icmp .eq 551, 3) := by decide +kernel
theorem dL_law_414 : decode cL_law 414 = .ok (.iconst 0, 1) := by decide +kernel
theorem dL_law_415 : decode cL_law 415 = .ok (.ireturn, 1) := by decide +kernel
theorem dL_law_416 : decode cL_law 416 = .ok (.aload_n 1, 1) := by decide +kernel
theorem dL_law_417 : decode cL_law 417 = .ok (.aload_n 0, 1) := by decide +kernel
theorem dL_law_418 : decode cL_law 418 = .ok (.iload_n 3, 1) := by decide +kernel
theorem dL_law_419 : decode cL_law 419 = .ok (.iconst 1, 1) := by decide +kernel
theorem dL_law_420 : decode cL_law 420 = .ok (.iadd, 1) := by decide +kernel
theorem dL_law_421 : decode cL_law 421 = .ok (.iaload, 1) := by decide +kernel
theorem dL_law_422 : decode cL_law 422 = .ok (.aload_n 0, 1) := by decide +kernel
theorem dL_law_423 : decode cL_law 423 = .ok (.iload_n 3, 1) := by decide +kernel
theorem dL_law_424 : decode cL_law 424 = .ok (.iconst 2, 1) := by decide +kernel
theorem dL_law_425 : decode cL_law 425 = .ok (.iadd, 1) := by decide +kernel
theorem dL_law_426 : decode cL_law 426 = .ok (.iaload, 1) := by decide +kernel
theorem dL_law_427 : decode cL_law 427 = .ok (.invokevirtual 57, 3) := by decide +kernel
theorem dL_law_430 : decode cL_law 430 = .ok (.aload_n 2, 1) := by decide +kernel
theorem dL_law_431 : decode cL_law 431 = .ok (.aload_n 0, 1) := by decide +kernel
theorem dL_law_432 : decode cL_law 432 = .ok (.iload_n 3, 1) := by decide +kernel
theorem dL_law_433 : decode cL_law 433 = .ok (.iconst 1, 1) := by decide +kernel
theorem dL_law_434 : decode cL_law 434 = .ok (.iadd, 1) := by decide +kernel
theorem dL_law_435 : decode cL_law 435 = .ok (.iaload, 1) := by decide +kernel
theorem dL_law_436 : decode cL_law 436 = .ok (.aload_n 0, 1) := by decide +kernel
theorem dL_law_437 : decode cL_law 437 = .ok (.iload_n 3, 1) := by decide +kernel
theorem dL_law_438 : decode cL_law 438 = .ok (.iconst 2, 1) := by decide +kernel
theorem dL_law_439 : decode cL_law 439 = .ok (.iadd, 1) := by decide +kernel
theorem dL_law_440 : decode cL_law 440 = .ok (.iaload, 1) := by decide +kernel
theorem dL_law_441 : decode cL_law 441 = .ok (.invokevirtual 60, 3) := by decide +kernel
theorem dL_law_444 : decode cL_law 444 = .ok (.if_icmp .eq 518, 3) := by decide +kernel
theorem dL_law_447 : decode cL_law 447 = .ok (.iconst 0, 1) := by decide +kernel
theorem dL_law_448 : decode cL_law 448 = .ok (.ireturn, 1) := by decide +kernel
theorem dL_law_449 : decode cL_law 449 = .ok (.aload_n 1, 1) := by decide +kernel
theorem dL_law_450 : decode cL_law 450 = .ok (.aload_n 0, 1) := by decide +kernel
theorem dL_law_451 : decode cL_law 451 = .ok (.iload_n 3, 1) := by decide +kernel
theorem dL_law_452 : decode cL_law 452 = .ok (.iconst 1, 1) := by decide +kernel
theorem dL_law_453 : decode cL_law 453 = .ok (.iadd, 1) := by decide +kernel
theorem dL_law_454 : decode cL_law 454 = .ok (.iaload, 1) := by decide +kernel
theorem dL_law_455 : decode cL_law 455 = .ok (.invokevirtual 61, 3) := by decide +kernel
theorem dL_law_458 : decode cL_law 458 = .ok (.aload_n 2, 1) := by decide +kernel
theorem dL_law_459 : decode cL_law 459 = .ok (.aload_n 0, 1) := by decide +kernel
theorem dL_law_460 : decode cL_law 460 = .ok (.iload_n 3, 1) := by decide +kernel
theorem dL_law_461 : decode cL_law 461 = .ok (.iconst 1, 1) := by decide +kernel
theorem dL_law_462 : decode cL_law 462 = .ok (.iadd, 1) := by decide +kernel
theorem dL_law_463 : decode cL_law 463 = .ok (.iaload, 1) := by decide +kernel
theorem dL_law_464 : decode cL_law 464 = .ok (.invokevirtual 64, 3) := by decide +kernel
theorem dL_law_467 : decode cL_law 467 = .ok (.if_icmp .eq 495, 3) := by decide +kernel
theorem dL_law_470 : decode cL_law 470 = .ok (.iconst 0, 1) := by decide +kernel
theorem dL_law_471 : decode cL_law 471 = .ok (.ireturn, 1) := by decide +kernel
theorem dL_law_472 : decode cL_law 472 = .ok (.aload_n 1, 1) := by decide +kernel
theorem dL_law_473 : decode cL_law 473 = .ok (.aload_n 0, 1) := by decide +kernel
theorem dL_law_474 : decode cL_law 474 = .ok (.iload_n 3, 1) := by decide +kernel
theorem dL_law_475 : decode cL_law 475 = .ok (.iconst 1, 1) := by decide +kernel
theorem dL_law_476 : decode cL_law 476 = .ok (.iadd, 1) := by decide +kernel
theorem dL_law_477 : decode cL_law 477 = .ok (.iaload, 1) := by decide +kernel
theorem dL_law_478 : decode cL_law 478 = .ok (.aload_n 0, 1) := by decide +kernel
theorem dL_law_479 : decode cL_law 479 = .ok (.iload_n 3, 1) := by decide +kernel
theorem dL_law_480 : decode cL_law 480 = .ok (.iconst 2, 1) := by decide +kernel
theorem dL_law_481 : decode cL_law 481 = .ok (.iadd, 1) := by decide +kernel
theorem dL_law_482 : decode cL_law 482 = .ok (.iaload, 1) := by decide +kernel
theorem dL_law_483 : decode cL_law 483 = .ok (.invokevirtual 65, 3) := by decide +kernel
theorem dL_law_486 : decode cL_law 486 = .ok (.aload_n 2, 1) := by decide +kernel
theorem dL_law_487 : decode cL_law 487 = .ok (.aload_n 0, 1) := by decide +kernel
theorem dL_law_488 : decode cL_law 488 = .ok (.iload_n 3, 1) := by decide +kernel
theorem dL_law_489 : decode cL_law 489 = .ok (.iconst 1, 1) := by decide +kernel
theorem dL_law_490 : decode cL_law 490 = .ok (.iadd, 1) := by decide +kernel
theorem dL_law_491 : decode cL_law 491 = .ok (.iaload, 1) := by decide +kernel
theorem dL_law_492 : decode cL_law 492 = .ok (.aload_n 0, 1) := by decide +kernel
theorem dL_law_493 : decode cL_law 493 = .ok (.iload_n 3, 1) := by decide +kernel
theorem dL_law_494 : decode cL_law 494 = .ok (.iconst 2, 1) := by decide +kernel
theorem dL_law_495 : decode cL_law 495 = .ok (.iadd, 1) := by decide +kernel
theorem dL_law_496 : decode cL_law 496 = .ok (.iaload, 1) := by decide +kernel
theorem dL_law_497 : decode cL_law 497 = .ok (.invokevirtual 68, 3) := by decide +kernel
theorem dL_law_500 : decode cL_law 500 = .ok (.if_icmp .eq 462, 3) := by decide +kernel
theorem dL_law_503 : decode cL_law 503 = .ok (.iconst 0, 1) := by decide +kernel
theorem dL_law_504 : decode cL_law 504 = .ok (.ireturn, 1) := by decide +kernel
theorem dL_law_505 : decode cL_law 505 = .ok (.aload_n 1, 1) := by decide +kernel
theorem dL_law_506 : decode cL_law 506 = .ok (.aload_n 0, 1) := by decide +kernel
theorem dL_law_507 : decode cL_law 507 = .ok (.iload_n 3, 1) := by decide +kernel
theorem dL_law_508 : decode cL_law 508 = .ok (.iconst 1, 1) := by decide +kernel
theorem dL_law_509 : decode cL_law 509 = .ok (.iadd, 1) := by decide +kernel
theorem dL_law_510 : decode cL_law 510 = .ok (.iaload, 1) := by decide +kernel
theorem dL_law_511 : decode cL_law 511 = .ok (.aload_n 0, 1) := by decide +kernel
theorem dL_law_512 : decode cL_law 512 = .ok (.iload_n 3, 1) := by decide +kernel
theorem dL_law_513 : decode cL_law 513 = .ok (.iconst 2, 1) := by decide +kernel
theorem dL_law_514 : decode cL_law 514 = .ok (.iadd, 1) := by decide +kernel
theorem dL_law_515 : decode cL_law 515 = .ok (.iaload, 1) := by decide +kernel
theorem dL_law_516 : decode cL_law 516 = .ok (.aload_n 0, 1) := by decide +kernel
theorem dL_law_517 : decode cL_law 517 = .ok (.iload_n 3, 1) := by decide +kernel
theorem dL_law_518 : decode cL_law 518 = .ok (.iconst 3, 1) := by decide +kernel
theorem dL_law_519 : decode cL_law 519 = .ok (.iadd, 1) := by decide +kernel
theorem dL_law_520 : decode cL_law 520 = .ok (.iaload, 1) := by decide +kernel
theorem dL_law_521 : decode cL_law 521 = .ok (.invokevirtual 69, 3) := by decide +kernel
theorem dL_law_524 : decode cL_law 524 = .ok (.aload_n 2, 1) := by decide +kernel
theorem dL_law_525 : decode cL_law 525 = .ok (.aload_n 0, 1) := by decide +kernel
theorem dL_law_526 : decode cL_law 526 = .ok (.iload_n 3, 1) := by decide +kernel
theorem dL_law_527 : decode cL_law 527 = .ok (.iconst 1, 1) := by decide +kernel
theorem dL_law_528 : decode cL_law 528 = .ok (.iadd, 1) := by decide +kernel
theorem dL_law_529 : decode cL_law 529 = .ok (.iaload, 1) := by decide +kernel
theorem dL_law_530 : decode cL_law 530 = .ok (.aload_n 0, 1) := by decide +kernel
theorem dL_law_531 : decode cL_law 531 = .ok (.iload_n 3, 1) := by decide +kernel
theorem dL_law_532 : decode cL_law 532 = .ok (.iconst 2, 1) := by decide +kernel
theorem dL_law_533 : decode cL_law 533 = .ok (.iadd, 1) := by decide +kernel
theorem dL_law_534 : decode cL_law 534 = .ok (.iaload, 1) := by decide +kernel
theorem dL_law_535 : decode cL_law 535 = .ok (.aload_n 0, 1) := by decide +kernel
theorem dL_law_536 : decode cL_law 536 = .ok (.iload_n 3, 1) := by decide +kernel
theorem dL_law_537 : decode cL_law 537 = .ok (.iconst 3, 1) := by decide +kernel
theorem dL_law_538 : decode cL_law 538 = .ok (.iadd, 1) := by decide +kernel
theorem dL_law_539 : decode cL_law 539 = .ok (.iaload, 1) := by decide +kernel
theorem dL_law_540 : decode cL_law 540 = .ok (.invokevirtual 72, 3) := by decide +kernel
theorem dL_law_543 : decode cL_law 543 = .ok (.if_icmp .eq 419, 3) := by decide +kernel
theorem dL_law_546 : decode cL_law 546 = .ok (.iconst 0, 1) := by decide +kernel
theorem dL_law_547 : decode cL_law 547 = .ok (.ireturn, 1) := by decide +kernel
theorem dL_law_548 : decode cL_law 548 = .ok (.aload_n 1, 1) := by decide +kernel
theorem dL_law_549 : decode cL_law 549 = .ok (.aload_n 0, 1) := by decide +kernel
theorem dL_law_550 : decode cL_law 550 = .ok (.iload_n 3, 1) := by decide +kernel
theorem dL_law_551 : decode cL_law 551 = .ok (.iconst 1, 1) := by decide +kernel
theorem dL_law_552 : decode cL_law 552 = .ok (.iadd, 1) := by decide +kernel
theorem dL_law_553 : decode cL_law 553 = .ok (.iaload, 1) := by decide +kernel
theorem dL_law_554 : decode cL_law 554 = .ok (.aload_n 0, 1) := by decide +kernel
theorem dL_law_555 : decode cL_law 555 = .ok (.iload_n 3, 1) := by decide +kernel
theorem dL_law_556 : decode cL_law 556 = .ok (.iconst 2, 1) := by decide +kernel
theorem dL_law_557 : decode cL_law 557 = .ok (.iadd, 1) := by decide +kernel
theorem dL_law_558 : decode cL_law 558 = .ok (.iaload, 1) := by decide +kernel
theorem dL_law_559 : decode cL_law 559 = .ok (.invokevirtual 73, 3) := by decide +kernel
theorem dL_law_562 : decode cL_law 562 = .ok (.aload_n 2, 1) := by decide +kernel
theorem dL_law_563 : decode cL_law 563 = .ok (.aload_n 0, 1) := by decide +kernel
theorem dL_law_564 : decode cL_law 564 = .ok (.iload_n 3, 1) := by decide +kernel
theorem dL_law_565 : decode cL_law 565 = .ok (.iconst 1, 1) := by decide +kernel
theorem dL_law_566 : decode cL_law 566 = .ok (.iadd, 1) := by decide +kernel
theorem dL_law_567 : decode cL_law 567 = .ok (.iaload, 1) := by decide +kernel
theorem dL_law_568 : decode cL_law 568 = .ok (.aload_n 0, 1) := by decide +kernel
theorem dL_law_569 : decode cL_law 569 = .ok (.iload_n 3, 1) := by decide +kernel
theorem dL_law_570 : decode cL_law 570 = .ok (.iconst 2, 1) := by decide +kernel
theorem dL_law_571 : decode cL_law 571 = .ok (.iadd, 1) := by decide +kernel
theorem dL_law_572 : decode cL_law 572 = .ok (.iaload, 1) := by decide +kernel
theorem dL_law_573 : decode cL_law 573 = .ok (.invokevirtual 76, 3) := by decide +kernel
theorem dL_law_576 : decode cL_law 576 = .ok (.if_icmp .eq 386, 3) := by decide +kernel
theorem dL_law_579 : decode cL_law 579 = .ok (.iconst 0, 1) := by decide +kernel
theorem dL_law_580 : decode cL_law 580 = .ok (.ireturn, 1) := by decide +kernel
theorem dL_law_581 : decode cL_law 581 = .ok (.aload_n 1, 1) := by decide +kernel
theorem dL_law_582 : decode cL_law 582 = .ok (.aload_n 0, 1) := by decide +kernel
theorem dL_law_583 : decode cL_law 583 = .ok (.iload_n 3, 1) := by decide +kernel
theorem dL_law_584 : decode cL_law 584 = .ok (.iconst 1, 1) := by decide +kernel
theorem dL_law_585 : decode cL_law 585 = .ok (.iadd, 1) := by decide +kernel
theorem dL_law_586 : decode cL_law 586 = .ok (.iaload, 1) := by decide +kernel
theorem dL_law_587 : decode cL_law 587 = .ok (.invokevirtual 77, 3) := by decide +kernel
theorem dL_law_590 : decode cL_law 590 = .ok (.aload_n 2, 1) := by decide +kernel
theorem dL_law_591 : decode cL_law 591 = .ok (.aload_n 0, 1) := by decide +kernel
theorem dL_law_592 : decode cL_law 592 = .ok (.iload_n 3, 1) := by decide +kernel
theorem dL_law_593 : decode cL_law 593 = .ok (.iconst 1, 1) := by decide +kernel
theorem dL_law_594 : decode cL_law 594 = .ok (.iadd, 1) := by decide +kernel
theorem dL_law_595 : decode cL_law 595 = .ok (.iaload, 1) := by decide +kernel
theorem dL_law_596 : decode cL_law 596 = .ok (.invokevirtual 80, 3) := by decide +kernel
theorem dL_law_599 : decode cL_law 599 = .ok (.if_icmp .eq 363, 3) := by decide +kernel
theorem dL_law_602 : decode cL_law 602 = .ok (.iconst 0, 1) := by decide +kernel
theorem dL_law_603 : decode cL_law 603 = .ok (.ireturn, 1) := by decide +kernel
theorem dL_law_604 : decode cL_law 604 = .ok (.aload_n 1, 1) := by decide +kernel
theorem dL_law_605 : decode cL_law 605 = .ok (.aload_n 0, 1) := by decide +kernel
theorem dL_law_606 : decode cL_law 606 = .ok (.iload_n 3, 1) := by decide +kernel
theorem dL_law_607 : decode cL_law 607 = .ok (.iconst 1, 1) := by decide +kernel
theorem dL_law_608 : decode cL_law 608 = .ok (.iadd, 1) := by decide +kernel
theorem dL_law_609 : decode cL_law 609 = .ok (.iaload, 1) := by decide +kernel
theorem dL_law_610 : decode cL_law 610 = .ok (.aload_n 0, 1) := by decide +kernel
theorem dL_law_611 : decode cL_law 611 = .ok (.iload_n 3, 1) := by decide +kernel
theorem dL_law_612 : decode cL_law 612 = .ok (.iconst 2, 1) := by decide +kernel
theorem dL_law_613 : decode cL_law 613 = .ok (.iadd, 1) := by decide +kernel
theorem dL_law_614 : decode cL_law 614 = .ok (.iaload, 1) := by decide +kernel
theorem dL_law_615 : decode cL_law 615 = .ok (.invokevirtual 81, 3) := by decide +kernel
theorem dL_law_618 : decode cL_law 618 = .ok (.aload_n 2, 1) := by decide +kernel
theorem dL_law_619 : decode cL_law 619 = .ok (.aload_n 0, 1) := by decide +kernel
theorem dL_law_620 : decode cL_law 620 = .ok (.iload_n 3, 1) := by decide +kernel
theorem dL_law_621 : decode cL_law 621 = .ok (.iconst 1, 1) := by decide +kernel
theorem dL_law_622 : decode cL_law 622 = .ok (.iadd, 1) := by decide +kernel
theorem dL_law_623 : decode cL_law 623 = .ok (.iaload, 1) := by decide +kernel
theorem dL_law_624 : decode cL_law 624 = .ok (.aload_n 0, 1) := by decide +kernel
theorem dL_law_625 : decode cL_law 625 = .ok (.iload_n 3, 1) := by decide +kernel
theorem dL_law_626 : decode cL_law 626 = .ok (.iconst 2, 1) := by decide +kernel
theorem dL_law_627 : decode cL_law 627 = .ok (.iadd, 1) := by decide +kernel
theorem dL_law_628 : decode cL_law 628 = .ok (.iaload, 1) := by decide +kernel
theorem dL_law_629 : decode cL_law 629 = .ok (.invokevirtual 84, 3) := by decide +kernel
theorem dL_law_632 : decode cL_law 632 = .ok (.if_icmp .eq 330, 3) := by decide +kernel
theorem dL_law_635 : decode cL_law 635 = .ok (.iconst 0, 1) := by decide +kernel
theorem dL_law_636 : decode cL_law 636 = .ok (.ireturn, 1) := by decide +kernel
theorem dL_law_637 : decode cL_law 637 = .ok (.aload_n 1, 1) := by decide +kernel
theorem dL_law_638 : decode cL_law 638 = .ok (.aload_n 0, 1) := by decide +kernel
theorem dL_law_639 : decode cL_law 639 = .ok (.iload_n 3, 1) := by decide +kernel
theorem dL_law_640 : decode cL_law 640 = .ok (.iconst 1, 1) := by decide +kernel
theorem dL_law_641 : decode cL_law 641 = .ok (.iadd, 1) := by decide +kernel
theorem dL_law_642 : decode cL_law 642 = .ok (.iaload, 1) := by decide +kernel
theorem dL_law_643 : decode cL_law 643 = .ok (.aload_n 0, 1) := by decide +kernel
theorem dL_law_644 : decode cL_law 644 = .ok (.iload_n 3, 1) := by decide +kernel
theorem dL_law_645 : decode cL_law 645 = .ok (.iconst 2, 1) := by decide +kernel
theorem dL_law_646 : decode cL_law 646 = .ok (.iadd, 1) := by decide +kernel
theorem dL_law_647 : decode cL_law 647 = .ok (.iaload, 1) := by decide +kernel
theorem dL_law_648 : decode cL_law 648 = .ok (.invokevirtual 85, 3) := by decide +kernel
theorem dL_law_651 : decode cL_law 651 = .ok (.aload_n 2, 1) := by decide +kernel
theorem dL_law_652 : decode cL_law 652 = .ok (.aload_n 0, 1) := by decide +kernel
theorem dL_law_653 : decode cL_law 653 = .ok (.iload_n 3, 1) := by decide +kernel
theorem dL_law_654 : decode cL_law 654 = .ok (.iconst 1, 1) := by decide +kernel
theorem dL_law_655 : decode cL_law 655 = .ok (.iadd, 1) := by decide +kernel
theorem dL_law_656 : decode cL_law 656 = .ok (.iaload, 1) := by decide +kernel
theorem dL_law_657 : decode cL_law 657 = .ok (.aload_n 0, 1) := by decide +kernel
theorem dL_law_658 : decode cL_law 658 = .ok (.iload_n 3, 1) := by decide +kernel
theorem dL_law_659 : decode cL_law 659 = .ok (.iconst 2, 1) := by decide +kernel
theorem dL_law_660 : decode cL_law 660 = .ok (.iadd, 1) := by decide +kernel
theorem dL_law_661 : decode cL_law 661 = .ok (.iaload, 1) := by decide +kernel
theorem dL_law_662 : decode cL_law 662 = .ok (.invokevirtual 88, 3) := by decide +kernel
theorem dL_law_665 : decode cL_law 665 = .ok (.if_icmp .eq 297, 3) := by decide +kernel
theorem dL_law_668 : decode cL_law 668 = .ok (.iconst 0, 1) := by decide +kernel
theorem dL_law_669 : decode cL_law 669 = .ok (.ireturn, 1) := by decide +kernel
theorem dL_law_670 : decode cL_law 670 = .ok (.aload_n 1, 1) := by decide +kernel
theorem dL_law_671 : decode cL_law 671 = .ok (.invokevirtual 89, 3) := by decide +kernel
theorem dL_law_674 : decode cL_law 674 = .ok (.aload_n 2, 1) := by decide +kernel
theorem dL_law_675 : decode cL_law 675 = .ok (.invokevirtual 92, 3) := by decide +kernel
theorem dL_law_678 : decode cL_law 678 = .ok (.if_icmp .eq 284, 3) := by decide +kernel
theorem dL_law_681 : decode cL_law 681 = .ok (.iconst 0, 1) := by decide +kernel
theorem dL_law_682 : decode cL_law 682 = .ok (.ireturn, 1) := by decide +kernel
theorem dL_law_683 : decode cL_law 683 = .ok (.aload_n 1, 1) := by decide +kernel
theorem dL_law_684 : decode cL_law 684 = .ok (.aload_n 0, 1) := by decide +kernel
theorem dL_law_685 : decode cL_law 685 = .ok (.iload_n 3, 1) := by decide +kernel
theorem dL_law_686 : decode cL_law 686 = .ok (.iconst 1, 1) := by decide +kernel
theorem dL_law_687 : decode cL_law 687 = .ok (.iadd, 1) := by decide +kernel
theorem dL_law_688 : decode cL_law 688 = .ok (.iaload, 1) := by decide +kernel
theorem dL_law_689 : decode cL_law 689 = .ok (.invokevirtual 93, 3) := by decide +kernel
theorem dL_law_692 : decode cL_law 692 = .ok (.aload_n 2, 1) := by decide +kernel
theorem dL_law_693 : decode cL_law 693 = .ok (.aload_n 0, 1) := by decide +kernel
theorem dL_law_694 : decode cL_law 694 = .ok (.iload_n 3, 1) := by decide +kernel
theorem dL_law_695 : decode cL_law 695 = .ok (.iconst 1, 1) := by decide +kernel
theorem dL_law_696 : decode cL_law 696 = .ok (.iadd, 1) := by decide +kernel
theorem dL_law_697 : decode cL_law 697 = .ok (.iaload, 1) := by decide +kernel
theorem dL_law_698 : decode cL_law 698 = .ok (.invokevirtual 96, 3) := by decide +kernel
theorem dL_law_701 : decode cL_law 701 = .ok (.if_icmp .eq 261, 3) := by decide +kernel
theorem dL_law_704 : decode cL_law 704 = .ok (.iconst 0, 1) := by decide +kernel
theorem dL_law_705 : decode cL_law 705 = .ok (.ireturn, 1) := by decide +kernel
theorem dL_law_706 : decode cL_law 706 = .ok (.aload_n 1, 1) := by decide +kernel
theorem dL_law_707 : decode cL_law 707 = .ok (.aload_n 0, 1) := by decide +kernel
theorem dL_law_708 : decode cL_law 708 = .ok (.iload_n 3, 1) := by decide +kernel
theorem dL_law_709 : decode cL_law 709 = .ok (.iconst 1, 1) := by decide +kernel
theorem dL_law_710 : decode cL_law 710 = .ok (.iadd, 1) := by decide +kernel
theorem dL_law_711 : decode cL_law 711 = .ok (.iaload, 1) := by decide +kernel
theorem dL_law_712 : decode cL_law 712 = .ok (.invokevirtual 97, 3) := by decide +kernel
theorem dL_law_715 : decode cL_law 715 = .ok (.aload_n 2, 1) := by decide +kernel
theorem dL_law_716 : decode cL_law 716 = .ok (.aload_n 0, 1) := by decide +kernel
theorem dL_law_717 : decode cL_law 717 = .ok (.iload_n 3, 1) := by decide +kernel
theorem dL_law_718 : decode cL_law 718 = .ok (.iconst 1, 1) := by decide +kernel
theorem dL_law_719 : decode cL_law 719 = .ok (.iadd, 1) := by decide +kernel
theorem dL_law_720 : decode cL_law 720 = .ok (.iaload, 1) := by decide +kernel
theorem dL_law_721 : decode cL_law 721 = .ok (.invokevirtual 100, 3) := by decide +kernel
theorem dL_law_724 : decode cL_law 724 = .ok (.if_icmp .eq 238, 3) := by decide +kernel
theorem dL_law_727 : decode cL_law 727 = .ok (.iconst 0, 1) := by decide +kernel
theorem dL_law_728 : decode cL_law 728 = .ok (.ireturn, 1) := by decide +kernel
theorem dL_law_729 : decode cL_law 729 = .ok (.aload_n 1, 1) := by decide +kernel
theorem dL_law_730 : decode cL_law 730 = .ok (.aload_n 0, 1) := by decide +kernel
theorem dL_law_731 : decode cL_law 731 = .ok (.iload_n 3, 1) := by decide +kernel
theorem dL_law_732 : decode cL_law 732 = .ok (.iconst 1, 1) := by decide +kernel
theorem dL_law_733 : decode cL_law 733 = .ok (.iadd, 1) := by decide +kernel
theorem dL_law_734 : decode cL_law 734 = .ok (.iaload, 1) := by decide +kernel
theorem dL_law_735 : decode cL_law 735 = .ok (.aload_n 0, 1) := by decide +kernel
theorem dL_law_736 : decode cL_law 736 = .ok (.iload_n 3, 1) := by decide +kernel
theorem dL_law_737 : decode cL_law 737 = .ok (.iconst 2, 1) := by decide +kernel
theorem dL_law_738 : decode cL_law 738 = .ok (.iadd, 1) := by decide +kernel
theorem dL_law_739 : decode cL_law 739 = .ok (.iaload, 1) := by decide +kernel
theorem dL_law_740 : decode cL_law 740 = .ok (.invokevirtual 101, 3) := by decide +kernel
theorem dL_law_743 : decode cL_law 743 = .ok (.aload_n 2, 1) := by decide +kernel
theorem dL_law_744 : decode cL_law 744 = .ok (.aload_n 0, 1) := by decide +kernel
theorem dL_law_745 : decode cL_law 745 = .ok (.iload_n 3, 1) := by decide +kernel
theorem dL_law_746 : decode cL_law 746 = .ok (.iconst 1, 1) := by decide +kernel
theorem dL_law_747 : decode cL_law 747 = .ok (.iadd, 1) := by decide +kernel
theorem dL_law_748 : decode cL_law 748 = .ok (.iaload, 1) := by decide +kernel
theorem dL_law_749 : decode cL_law 749 = .ok (.aload_n 0, 1) := by decide +kernel
theorem dL_law_750 : decode cL_law 750 = .ok (.iload_n 3, 1) := by decide +kernel
theorem dL_law_751 : decode cL_law 751 = .ok (.iconst 2, 1) := by decide +kernel
theorem dL_law_752 : decode cL_law 752 = .ok (.iadd, 1) := by decide +kernel
theorem dL_law_753 : decode cL_law 753 = .ok (.iaload, 1) := by decide +kernel
theorem dL_law_754 : decode cL_law 754 = .ok (.invokevirtual 104, 3) := by decide +kernel
theorem dL_law_757 : decode cL_law 757 = .ok (.if_icmp .eq 205, 3) := by decide +kernel
theorem dL_law_760 : decode cL_law 760 = .ok (.iconst 0, 1) := by decide +kernel
theorem dL_law_761 : decode cL_law 761 = .ok (.ireturn, 1) := by decide +kernel
theorem dL_law_762 : decode cL_law 762 = .ok (.aload_n 1, 1) := by decide +kernel
theorem dL_law_763 : decode cL_law 763 = .ok (.aload_n 0, 1) := by decide +kernel
theorem dL_law_764 : decode cL_law 764 = .ok (.iload_n 3, 1) := by decide +kernel
theorem dL_law_765 : decode cL_law 765 = .ok (.iconst 1, 1) := by decide +kernel
theorem dL_law_766 : decode cL_law 766 = .ok (.iadd, 1) := by decide +kernel
theorem dL_law_767 : decode cL_law 767 = .ok (.iaload, 1) := by decide +kernel
theorem dL_law_768 : decode cL_law 768 = .ok (.aload_n 0, 1) := by decide +kernel
theorem dL_law_769 : decode cL_law 769 = .ok (.iload_n 3, 1) := by decide +kernel
theorem dL_law_770 : decode cL_law 770 = .ok (.iconst 2, 1) := by decide +kernel
theorem dL_law_771 : decode cL_law 771 = .ok (.iadd, 1) := by decide +kernel
theorem dL_law_772 : decode cL_law 772 = .ok (.iaload, 1) := by decide +kernel
theorem dL_law_773 : decode cL_law 773 = .ok (.aload_n 0, 1) := by decide +kernel
theorem dL_law_774 : decode cL_law 774 = .ok (.iload_n 3, 1) := by decide +kernel
theorem dL_law_775 : decode cL_law 775 = .ok (.iconst 3, 1) := by decide +kernel
theorem dL_law_776 : decode cL_law 776 = .ok (.iadd, 1) := by decide +kernel
theorem dL_law_777 : decode cL_law 777 = .ok (.iaload, 1) := by decide +kernel
theorem dL_law_778 : decode cL_law 778 = .ok (.aload_n 0, 1) := by decide +kernel
theorem dL_law_779 : decode cL_law 779 = .ok (.iload_n 3, 1) := by decide +kernel
theorem dL_law_780 : decode cL_law 780 = .ok (.iconst 4, 1) := by decide +kernel
theorem dL_law_781 : decode cL_law 781 = .ok (.iadd, 1) := by decide +kernel
theorem dL_law_782 : decode cL_law 782 = .ok (.iaload, 1) := by decide +kernel
theorem dL_law_783 : decode cL_law 783 = .ok (.aload_n 0, 1) := by decide +kernel
theorem dL_law_784 : decode cL_law 784 = .ok (.iload_n 3, 1) := by decide +kernel
theorem dL_law_785 : decode cL_law 785 = .ok (.iconst 5, 1) := by decide +kernel
theorem dL_law_786 : decode cL_law 786 = .ok (.iadd, 1) := by decide +kernel
theorem dL_law_787 : decode cL_law 787 = .ok (.iaload, 1) := by decide +kernel
theorem dL_law_788 : decode cL_law 788 = .ok (.aload_n 0, 1) := by decide +kernel
theorem dL_law_789 : decode cL_law 789 = .ok (.iload_n 3, 1) := by decide +kernel
theorem dL_law_790 : decode cL_law 790 = .ok (.bipush 6, 2) := by decide +kernel
theorem dL_law_792 : decode cL_law 792 = .ok (.iadd, 1) := by decide +kernel
theorem dL_law_793 : decode cL_law 793 = .ok (.iaload, 1) := by decide +kernel
theorem dL_law_794 : decode cL_law 794 = .ok (.aload_n 0, 1) := by decide +kernel
theorem dL_law_795 : decode cL_law 795 = .ok (.iload_n 3, 1) := by decide +kernel
theorem dL_law_796 : decode cL_law 796 = .ok (.bipush 7, 2) := by decide +kernel
theorem dL_law_798 : decode cL_law 798 = .ok (.iadd, 1) := by decide +kernel
theorem dL_law_799 : decode cL_law 799 = .ok (.iaload, 1) := by decide +kernel
theorem dL_law_800 : decode cL_law 800 = .ok (.invokevirtual 105, 3) := by decide +kernel
theorem dL_law_803 : decode cL_law 803 = .ok (.aload_n 2, 1) := by decide +kernel
theorem dL_law_804 : decode cL_law 804 = .ok (.aload_n 0, 1) := by decide +kernel
theorem dL_law_805 : decode cL_law 805 = .ok (.iload_n 3, 1) := by decide +kernel
theorem dL_law_806 : decode cL_law 806 = .ok (.iconst 1, 1) := by decide +kernel
theorem dL_law_807 : decode cL_law 807 = .ok (.iadd, 1) := by decide +kernel
theorem dL_law_808 : decode cL_law 808 = .ok (.iaload, 1) := by decide +kernel
theorem dL_law_809 : decode cL_law 809 = .ok (.aload_n 0, 1) := by decide +kernel
theorem dL_law_810 : decode cL_law 810 = .ok (.iload_n 3, 1) := by decide +kernel
theorem dL_law_811 : decode cL_law 811 = .ok (.iconst 2, 1) := by decide +kernel
theorem dL_law_812 : decode cL_law 812 = .ok (.iadd, 1) := by decide +kernel
theorem dL_law_813 : decode cL_law 813 = .ok (.iaload, 1) := by decide +kernel
theorem dL_law_814 : decode cL_law 814 = .ok (.aload_n 0, 1) := by decide +kernel
theorem dL_law_815 : decode cL_law 815 = .ok (.iload_n 3, 1) := by decide +kernel
theorem dL_law_816 : decode cL_law 816 = .ok (.iconst 3, 1) := by decide +kernel
theorem dL_law_817 : decode cL_law 817 = .ok (.iadd, 1) := by decide +kernel
theorem dL_law_818 : decode cL_law 818 = .ok (.iaload, 1) := by decide +kernel
theorem dL_law_819 : decode cL_law 819 = .ok (.aload_n 0, 1) := by decide +kernel
theorem dL_law_820 : decode cL_law 820 = .ok (.iload_n 3, 1) := by decide +kernel
theorem dL_law_821 : decode cL_law 821 = .ok (.iconst 4, 1) := by decide +kernel
theorem dL_law_822 : decode cL_law 822 = .ok (.iadd, 1) := by decide +kernel
theorem dL_law_823 : decode cL_law 823 = .ok (.iaload, 1) := by decide +kernel
theorem dL_law_824 : decode cL_law 824 = .ok (.aload_n 0, 1) := by decide +kernel
theorem dL_law_825 : decode cL_law 825 = .ok (.iload_n 3, 1) := by decide +kernel
theorem dL_law_826 : decode cL_law 826 = .ok (.iconst 5, 1) := by decide +kernel
theorem dL_law_827 : decode cL_law 827 = .ok (.iadd, 1) := by decide +kernel
theorem dL_law_828 : decode cL_law 828 = .ok (.iaload, 1) := by decide +kernel
theorem dL_law_829 : decode cL_law 829 = .ok (.aload_n 0, 1) := by decide +kernel
theorem dL_law_830 : decode cL_law 830 = .ok (.iload_n 3, 1) := by decide +kernel
theorem dL_law_831 : decode cL_law 831 = .ok (.bipush 6, 2) := by decide +kernel
theorem dL_law_833 : decode cL_law 833 = .ok (.iadd, 1) := by decide +kernel
theorem dL_law_834 : decode cL_law 834 = .ok (.iaload, 1) := by decide +kernel
theorem dL_law_835 : decode cL_law 835 = .ok (.aload_n 0, 1) := by decide +kernel
theorem dL_law_836 : decode cL_law 836 = .ok (.iload_n 3, 1) := by decide +kernel
theorem dL_law_837 : decode cL_law 837 = .ok (.bipush 7, 2) := by decide +kernel
theorem dL_law_839 : decode cL_law 839 = .ok (.iadd, 1) := by decide +kernel
theorem dL_law_840 : decode cL_law 840 = .ok (.iaload, 1) := by decide +kernel
theorem dL_law_841 : decode cL_law 841 = .ok (.invokevirtual 109, 3) := by decide +kernel
theorem dL_law_844 : decode cL_law 844 = .ok (.lcmp, 1) := by decide +kernel
theorem dL_law_845 : decode cL_law 845 = .ok (.ifCond .eq 117, 3) := by decide +kernel
theorem dL_law_848 : decode cL_law 848 = .ok (.iconst 0, 1) := by decide +kernel
theorem dL_law_849 : decode cL_law 849 = .ok (.ireturn, 1) := by decide +kernel
theorem dL_law_850 : decode cL_law 850 = .ok (.aload_n 1, 1) := by decide +kernel
theorem dL_law_851 : decode cL_law 851 = .ok (.aload_n 0, 1) := by decide +kernel
theorem dL_law_852 : decode cL_law 852 = .ok (.iload_n 3, 1) := by decide +kernel
theorem dL_law_853 : decode cL_law 853 = .ok (.iconst 1, 1) := by decide +kernel
theorem dL_law_854 : decode cL_law 854 = .ok (.iadd, 1) := by decide +kernel
theorem dL_law_855 : decode cL_law 855 = .ok (.iaload, 1) := by decide +kernel
theorem dL_law_856 : decode cL_law 856 = .ok (.aload_n 0, 1) := by decide +kernel
theorem dL_law_857 : decode cL_law 857 = .ok (.iload_n 3, 1) := by decide +kernel
theorem dL_law_858 : decode cL_law 858 = .ok (.iconst 2, 1) := by decide +kernel
theorem dL_law_859 : decode cL_law 859 = .ok (.iadd, 1) := by decide +kernel
theorem dL_law_860 : decode cL_law 860 = .ok (.iaload, 1) := by decide +kernel
theorem dL_law_861 : decode cL_law 861 = .ok (.aload_n 0, 1) := by decide +kernel
theorem dL_law_862 : decode cL_law 862 = .ok (.iload_n 3, 1) := by decide +kernel
theorem dL_law_863 : decode cL_law 863 = .ok (.iconst 3, 1) := by decide +kernel
theorem dL_law_864 : decode cL_law 864 = .ok (.iadd, 1) := by decide +kernel
theorem dL_law_865 : decode cL_law 865 = .ok (.iaload, 1) := by decide +kernel
theorem dL_law_866 : decode cL_law 866 = .ok (.invokevirtual 110, 3) := by decide +kernel
theorem dL_law_869 : decode cL_law 869 = .ok (.aload_n 2, 1) := by decide +kernel
theorem dL_law_870 : decode cL_law 870 = .ok (.aload_n 0, 1) := by decide +kernel
theorem dL_law_871 : decode cL_law 871 = .ok (.iload_n 3, 1) := by decide +kernel
theorem dL_law_872 : decode cL_law 872 = .ok (.iconst 1, 1) := by decide +kernel
theorem dL_law_873 : decode cL_law 873 = .ok (.iadd, 1) := by decide +kernel
theorem dL_law_874 : decode cL_law 874 = .ok (.iaload, 1) := by decide +kernel
theorem dL_law_875 : decode cL_law 875 = .ok (.aload_n 0, 1) := by decide +kernel
theorem dL_law_876 : decode cL_law 876 = .ok (.iload_n 3, 1) := by decide +kernel
theorem dL_law_877 : decode cL_law 877 = .ok (.iconst 2, 1) := by decide +kernel
theorem dL_law_878 : decode cL_law 878 = .ok (.iadd, 1) := by decide +kernel
theorem dL_law_879 : decode cL_law 879 = .ok (.iaload, 1) := by decide +kernel
theorem dL_law_880 : decode cL_law 880 = .ok (.aload_n 0, 1) := by decide +kernel
theorem dL_law_881 : decode cL_law 881 = .ok (.iload_n 3, 1) := by decide +kernel
theorem dL_law_882 : decode cL_law 882 = .ok (.iconst 3, 1) := by decide +kernel
theorem dL_law_883 : decode cL_law 883 = .ok (.iadd, 1) := by decide +kernel
theorem dL_law_884 : decode cL_law 884 = .ok (.iaload, 1) := by decide +kernel
theorem dL_law_885 : decode cL_law 885 = .ok (.invokevirtual 113, 3) := by decide +kernel
theorem dL_law_888 : decode cL_law 888 = .ok (.if_icmp .eq 74, 3) := by decide +kernel
theorem dL_law_891 : decode cL_law 891 = .ok (.iconst 0, 1) := by decide +kernel
theorem dL_law_892 : decode cL_law 892 = .ok (.ireturn, 1) := by decide +kernel
theorem dL_law_893 : decode cL_law 893 = .ok (.aload_n 1, 1) := by decide +kernel
theorem dL_law_894 : decode cL_law 894 = .ok (.aload_n 0, 1) := by decide +kernel
theorem dL_law_895 : decode cL_law 895 = .ok (.iload_n 3, 1) := by decide +kernel
theorem dL_law_896 : decode cL_law 896 = .ok (.iconst 1, 1) := by decide +kernel
theorem dL_law_897 : decode cL_law 897 = .ok (.iadd, 1) := by decide +kernel
theorem dL_law_898 : decode cL_law 898 = .ok (.iaload, 1) := by decide +kernel
theorem dL_law_899 : decode cL_law 899 = .ok (.invokevirtual 114, 3) := by decide +kernel
theorem dL_law_902 : decode cL_law 902 = .ok (.aload_n 2, 1) := by decide +kernel
theorem dL_law_903 : decode cL_law 903 = .ok (.aload_n 0, 1) := by decide +kernel
theorem dL_law_904 : decode cL_law 904 = .ok (.iload_n 3, 1) := by decide +kernel
theorem dL_law_905 : decode cL_law 905 = .ok (.iconst 1, 1) := by decide +kernel
theorem dL_law_906 : decode cL_law 906 = .ok (.iadd, 1) := by decide +kernel
theorem dL_law_907 : decode cL_law 907 = .ok (.iaload, 1) := by decide +kernel
theorem dL_law_908 : decode cL_law 908 = .ok (.invokevirtual 117, 3) := by decide +kernel
theorem dL_law_911 : decode cL_law 911 = .ok (.if_icmp .eq 51, 3) := by decide +kernel
theorem dL_law_914 : decode cL_law 914 = .ok (.iconst 0, 1) := by decide +kernel
theorem dL_law_915 : decode cL_law 915 = .ok (.ireturn, 1) := by decide +kernel
theorem dL_law_916 : decode cL_law 916 = .ok (.aload_n 1, 1) := by decide +kernel
theorem dL_law_917 : decode cL_law 917 = .ok (.aload_n 0, 1) := by decide +kernel
theorem dL_law_918 : decode cL_law 918 = .ok (.iload_n 3, 1) := by decide +kernel
theorem dL_law_919 : decode cL_law 919 = .ok (.iconst 1, 1) := by decide +kernel
theorem dL_law_920 : decode cL_law 920 = .ok (.iadd, 1) := by decide +kernel
theorem dL_law_921 : decode cL_law 921 = .ok (.iaload, 1) := by decide +kernel
theorem dL_law_922 : decode cL_law 922 = .ok (.invokevirtual 118, 3) := by decide +kernel
theorem dL_law_925 : decode cL_law 925 = .ok (.aload_n 2, 1) := by decide +kernel
theorem dL_law_926 : decode cL_law 926 = .ok (.aload_n 0, 1) := by decide +kernel
theorem dL_law_927 : decode cL_law 927 = .ok (.iload_n 3, 1) := by decide +kernel
theorem dL_law_928 : decode cL_law 928 = .ok (.iconst 1, 1) := by decide +kernel
theorem dL_law_929 : decode cL_law 929 = .ok (.iadd, 1) := by decide +kernel
theorem dL_law_930 : decode cL_law 930 = .ok (.iaload, 1) := by decide +kernel
theorem dL_law_931 : decode cL_law 931 = .ok (.invokevirtual 121, 3) := by decide +kernel
theorem dL_law_934 : decode cL_law 934 = .ok (.if_icmp .eq 28, 3) := by decide +kernel
theorem dL_law_937 : decode cL_law 937 = .ok (.iconst 0, 1) := by decide +kernel
theorem dL_law_938 : decode cL_law 938 = .ok (.ireturn, 1) := by decide +kernel
theorem dL_law_939 : decode cL_law 939 = .ok (.aload_n 1, 1) := by decide +kernel
theorem dL_law_940 : decode cL_law 940 = .ok (.aload_n 0, 1) := by decide +kernel
theorem dL_law_941 : decode cL_law 941 = .ok (.iload_n 3, 1) := by decide +kernel
theorem dL_law_942 : decode cL_law 942 = .ok (.iconst 1, 1) := by decide +kernel
theorem dL_law_943 : decode cL_law 943 = .ok (.iadd, 1) := by decide +kernel
theorem dL_law_944 : decode cL_law 944 = .ok (.iaload, 1) := by decide +kernel
theorem dL_law_945 : decode cL_law 945 = .ok (.invokevirtual 122, 3) := by decide +kernel
theorem dL_law_948 : decode cL_law 948 = .ok (.aload_n 2, 1) := by decide +kernel
theorem dL_law_949 : decode cL_law 949 = .ok (.aload_n 0, 1) := by decide +kernel
theorem dL_law_950 : decode cL_law 950 = .ok (.iload_n 3, 1) := by decide +kernel
theorem dL_law_951 : decode cL_law 951 = .ok (.iconst 1, 1) := by decide +kernel
theorem dL_law_952 : decode cL_law 952 = .ok (.iadd, 1) := by decide +kernel
theorem dL_law_953 : decode cL_law 953 = .ok (.iaload, 1) := by decide +kernel
theorem dL_law_954 : decode cL_law 954 = .ok (.invokevirtual 125, 3) := by decide +kernel
theorem dL_law_957 : decode cL_law 957 = .ok (.if_icmp .eq 5, 3) := by decide +kernel
theorem dL_law_960 : decode cL_law 960 = .ok (.iconst 0, 1) := by decide +kernel
theorem dL_law_961 : decode cL_law 961 = .ok (.ireturn, 1) := by decide +kernel
theorem dL_law_962 : decode cL_law 962 = .ok (.iinc 3 8, 3) := by decide +kernel
theorem dL_law_965 : decode cL_law 965 = .ok (.goto (-947), 3) := by decide +kernel
theorem dL_law_968 : decode cL_law 968 = .ok (.iconst 1, 1) := by decide +kernel
theorem dL_law_969 : decode cL_law 969 = .ok (.ireturn, 1) := by decide +kernel
