theorem dX0_init_0 : decode cX0_init 0 = .ok (.aload_n 0, 1) := by decide +kernel
theorem dX0_init_1 : decode cX0_init 1 = .ok (.invokespecial 3, 3) := by decide +kernel
theorem dX0_init_4 : decode cX0_init 4 = .ok (.aload_n 0, 1) := by decide +kernel
theorem dX0_init_5 : decode cX0_init 5 = .ok (.bipush 24, 2) := by decide +kernel
theorem dX0_init_7 : decode cX0_init 7 = .ok (.anewarray 9, 3) := by decide +kernel
theorem dX0_init_10 : decode cX0_init 10 = .ok (.putfield 11, 3) := by decide +kernel
theorem dX0_init_13 : decode cX0_init 13 = .ok (.aload_n 0, 1) := by decide +kernel
theorem dX0_init_14 : decode cX0_init 14 = .ok (.bipush 15, 2) := by decide +kernel
theorem dX0_init_16 : decode cX0_init 16 = .ok (.newarray .int, 2) := by decide +kernel
theorem dX0_init_18 : decode cX0_init 18 = .ok (.putfield 17, 3) := by decide +kernel
theorem dX0_init_21 : decode cX0_init 21 = .ok (.aload_n 0, 1) := by decide +kernel
theorem dX0_init_22 : decode cX0_init 22 = .ok (.iconst 3, 1) := by decide +kernel
theorem dX0_init_23 : decode cX0_init 23 = .ok (.newarray .int, 2) := by decide +kernel
theorem dX0_init_25 : decode cX0_init 25 = .ok (.putfield 21, 3) := by decide +kernel
theorem dX0_init_28 : decode cX0_init 28 = .ok (.aload_n 0, 1) := by decide +kernel
theorem dX0_init_29 : decode cX0_init 29 = .ok (.bipush 20, 2) := by decide +kernel
theorem dX0_init_31 : decode cX0_init 31 = .ok (.newarray .int, 2) := by decide +kernel
theorem dX0_init_33 : decode cX0_init 33 = .ok (.putfield 24, 3) := by decide +kernel
theorem dX0_init_36 : decode cX0_init 36 = .ok (.aload_n 0, 1) := by decide +kernel
theorem dX0_init_37 : decode cX0_init 37 = .ok (.iconst 3, 1) := by decide +kernel
theorem dX0_init_38 : decode cX0_init 38 = .ok (.newarray .int, 2) := by decide +kernel
theorem dX0_init_40 : decode cX0_init 40 = .ok (.putfield 27, 3) := by decide +kernel
theorem dX0_init_43 : decode cX0_init 43 = .ok (.aload_n 0, 1) := by decide +kernel
theorem dX0_init_44 : decode cX0_init 44 = .ok (.iconst 3, 1) := by decide +kernel
theorem dX0_init_45 : decode cX0_init 45 = .ok (.newarray .int, 2) := by decide +kernel
theorem dX0_init_47 : decode cX0_init 47 = .ok (.putfield 30, 3) := by decide +kernel
theorem dX0_init_50 : decode cX0_init 50 = .ok (.aload_n 0, 1) := by decide +kernel
theorem dX0_init_51 : decode cX0_init 51 = .ok (.bipush 9, 2) := by decide +kernel
theorem dX0_init_53 : decode cX0_init 53 = .ok (.newarray .int, 2) := by decide +kernel
theorem dX0_init_55 : decode cX0_init 55 = .ok (.putfield 33, 3) := by decide +kernel
theorem dX0_init_58 : decode cX0_init 58 = .ok (.aload_n 0, 1) := by decide +kernel
theorem dX0_init_59 : decode cX0_init 59 = .ok (.iconst 0, 1) := by decide +kernel
theorem dX0_init_60 : decode cX0_init 60 = .ok (.putfield 36, 3) := by decide +kernel
theorem dX0_init_63 : decode cX0_init 63 = .ok (.aload_n 0, 1) := by decide +kernel
theorem dX0_init_64 : decode cX0_init 64 = .ok (.iconst 0, 1) := by decide +kernel
theorem dX0_init_65 : decode cX0_init 65 = .ok (.putfield 40, 3) := by decide +kernel
theorem dX0_init_68 : decode cX0_init 68 = .ok (.aload_n 0, 1) := by decide +kernel
theorem dX0_init_69 : decode cX0_init 69 = .ok (.iconst 0, 1) := by decide +kernel
theorem dX0_init_70 : decode cX0_init 70 = .ok (.putfield 43, 3) := by decide +kernel
theorem dX0_init_73 : decode cX0_init 73 = .ok (.aload_n 0, 1) := by decide +kernel
theorem dX0_init_74 : decode cX0_init 74 = .ok (.iconst 1, 1) := by decide +kernel
theorem dX0_init_75 : decode cX0_init 75 = .ok (.putfield 46, 3) := by decide +kernel
theorem dX0_init_78 : decode cX0_init 78 = .ok (.aload_n 0, 1) := by decide +kernel
theorem dX0_init_79 : decode cX0_init 79 = .ok (.aload_n 1, 1) := by decide +kernel
theorem dX0_init_80 : decode cX0_init 80 = .ok (.putfield 49, 3) := by decide +kernel
theorem dX0_init_83 : decode cX0_init 83 = .ok (.aload_n 0, 1) := by decide +kernel
theorem dX0_init_84 : decode cX0_init 84 = .ok (.aload_n 2, 1) := by decide +kernel
theorem dX0_init_85 : decode cX0_init 85 = .ok (.putfield 53, 3) := by decide +kernel
theorem dX0_init_88 : decode cX0_init 88 = .ok (.iconst 0, 1) := by decide +kernel
theorem dX0_init_89 : decode cX0_init 89 = .ok (.istore_n 3, 1) := by decide +kernel
theorem dX0_init_90 : decode cX0_init 90 = .ok (.iload_n 3, 1) := by decide +kernel
theorem dX0_init_91 : decode cX0_init 91 = .ok (.bipush 24, 2) := by decide +kernel
theorem dX0_init_93 : decode cX0_init 93 = .ok (.if_icmp .ge 22, 3) := by decide +kernel
theorem dX0_init_96 : decode cX0_init 96 = .ok (.aload_n 0, 1) := by decide +kernel
theorem dX0_init_97 : decode cX0_init 97 = .ok (.getfield 11, 3) := by decide +kernel
theorem dX0_init_100 : decode cX0_init 100 = .ok (.iload_n 3, 1) := by decide +kernel
theorem dX0_init_101 : decode cX0_init 101 = .ok (.new 9, 3) := by decide +kernel
theorem dX0_init_104 : decode cX0_init 104 = .ok (.dup, 1) := by decide +kernel
theorem dX0_init_105 : decode cX0_init 105 = .ok (.invokespecial 56, 3) := by decide +kernel
theorem dX0_init_108 : decode cX0_init 108 = .ok (.aastore, 1) := by decide +kernel
theorem dX0_init_109 : decode cX0_init 109 = .ok (.iinc 3 1, 3) := by decide +kernel
theorem dX0_init_112 : decode cX0_init 112 = .ok (.goto (-22), 3) := by decide +kernel
theorem dX0_init_115 : decode cX0_init 115 = .ok (.iconst 0, 1) := by decide +kernel
theorem dX0_init_116 : decode cX0_init 116 = .ok (.istore_n 3, 1) := by decide +kernel
theorem dX0_init_117 : decode cX0_init 117 = .ok (.iload_n 3, 1) := by decide +kernel
theorem dX0_init_118 : decode cX0_init 118 = .ok (.iconst 3, 1) := by decide +kernel
theorem dX0_init_119 : decode cX0_init 119 = .ok (.if_icmp .ge 17, 3) := by decide +kernel
theorem dX0_init_122 : decode cX0_init 122 = .ok (.aload_n 0, 1) := by decide +kernel
theorem dX0_init_123 : decode cX0_init 123 = .ok (.getfield 27, 3) := by decide +kernel
theorem dX0_init_126 : decode cX0_init 126 = .ok (.iload_n 3, 1) := by decide +kernel
theorem dX0_init_127 : decode cX0_init 127 = .ok (.bipush 100, 2) := by decide +kernel
theorem dX0_init_129 : decode cX0_init 129 = .ok (.iastore, 1) := by decide +kernel
theorem dX0_init_130 : decode cX0_init 130 = .ok (.iinc 3 1, 3) := by decide +kernel
theorem dX0_init_133 : decode cX0_init 133 = .ok (.goto (-16), 3) := by decide +kernel
theorem dX0_init_136 : decode cX0_init 136 = .ok (.iconst 0, 1) := by decide +kernel
theorem dX0_init_137 : decode cX0_init 137 = .ok (.istore_n 3, 1) := by decide +kernel
theorem dX0_init_138 : decode cX0_init 138 = .ok (.iload_n 3, 1) := by decide +kernel
theorem dX0_init_139 : decode cX0_init 139 = .ok (.bipush 9, 2) := by decide +kernel
theorem dX0_init_141 : decode cX0_init 141 = .ok (.if_icmp .ge 17, 3) := by decide +kernel
theorem dX0_init_144 : decode cX0_init 144 = .ok (.aload_n 0, 1) := by decide +kernel
theorem dX0_init_145 : decode cX0_init 145 = .ok (.getfield 33, 3) := by decide +kernel
theorem dX0_init_148 : decode cX0_init 148 = .ok (.iload_n 3, 1) := by decide +kernel
theorem dX0_init_149 : decode cX0_init 149 = .ok (.ldc 57, 2) := by decide +kernel
theorem dX0_init_151 : decode cX0_init 151 = .ok (.iastore, 1) := by decide +kernel
theorem dX0_init_152 : decode cX0_init 152 = .ok (.iinc 3 1, 3) := by decide +kernel
theorem dX0_init_155 : decode cX0_init 155 = .ok (.goto (-17), 3) := by decide +kernel
theorem dX0_init_158 : decode cX0_init 158 = .ok (.return_, 1) := by decide +kernel
theorem dX0_takeFrom_0 : decode cX0_takeFrom 0 = .ok (.iconst 0, 1) := by decide +kernel
theorem dX0_takeFrom_1 : decode cX0_takeFrom 1 = .ok (.istore_n 2, 1) := by decide +kernel
theorem dX0_takeFrom_2 : decode cX0_takeFrom 2 = .ok (.iload_n 2, 1) := by decide +kernel
theorem dX0_takeFrom_3 : decode cX0_takeFrom 3 = .ok (.aload_n 1, 1) := by decide +kernel
theorem dX0_takeFrom_4 : decode cX0_takeFrom 4 = .ok (.getfield 36, 3) := by decide +kernel
theorem dX0_takeFrom_7 : decode cX0_takeFrom 7 = .ok (.if_icmp .ge 24, 3) := by decide +kernel
theorem dX0_takeFrom_10 : decode cX0_takeFrom 10 = .ok (.aload_n 0, 1) := by decide +kernel
theorem dX0_takeFrom_11 : decode cX0_takeFrom 11 = .ok (.getfield 11, 3) := by decide +kernel
theorem dX0_takeFrom_14 : decode cX0_takeFrom 14 = .ok (.iload_n 2, 1) := by decide +kernel
theorem dX0_takeFrom_15 : decode cX0_takeFrom 15 = .ok (.aaload, 1) := by decide +kernel
theorem dX0_takeFrom_16 : decode cX0_takeFrom 16 = .ok (.aload_n 1, 1) := by decide +kernel
theorem dX0_takeFrom_17 : decode cX0_takeFrom 17 = .ok (.getfield 11, 3) := by decide +kernel
theorem dX0_takeFrom_20 : decode cX0_takeFrom 20 = .ok (.iload_n 2, 1) := by decide +kernel
theorem dX0_takeFrom_21 : decode cX0_takeFrom 21 = .ok (.aaload, 1) := by decide +kernel
theorem dX0_takeFrom_22 : decode cX0_takeFrom 22 = .ok (.invokevirtual 58, 3) := by decide +kernel
theorem dX0_takeFrom_25 : decode cX0_takeFrom 25 = .ok (.iinc 2 1, 3) := by decide +kernel
theorem dX0_takeFrom_28 : decode cX0_takeFrom 28 = .ok (.goto (-26), 3) := by decide +kernel
theorem dX0_takeFrom_31 : decode cX0_takeFrom 31 = .ok (.aload_n 1, 1) := by decide +kernel
theorem dX0_takeFrom_32 : decode cX0_takeFrom 32 = .ok (.getfield 17, 3) := by decide +kernel
theorem dX0_takeFrom_35 : decode cX0_takeFrom 35 = .ok (.iconst 0, 1) := by decide +kernel
theorem dX0_takeFrom_36 : decode cX0_takeFrom 36 = .ok (.aload_n 0, 1) := by decide +kernel
theorem dX0_takeFrom_37 : decode cX0_takeFrom 37 = .ok (.getfield 17, 3) := by decide +kernel
theorem dX0_takeFrom_40 : decode cX0_takeFrom 40 = .ok (.iconst 0, 1) := by decide +kernel
theorem dX0_takeFrom_41 : decode cX0_takeFrom 41 = .ok (.aload_n 0, 1) := by decide +kernel
theorem dX0_takeFrom_42 : decode cX0_takeFrom 42 = .ok (.getfield 17, 3) := by decide +kernel
theorem dX0_takeFrom_45 : decode cX0_takeFrom 45 = .ok (.arraylength, 1) := by decide +kernel
theorem dX0_takeFrom_46 : decode cX0_takeFrom 46 = .ok (.invokestatic 62, 3) := by decide +kernel
theorem dX0_takeFrom_49 : decode cX0_takeFrom 49 = .ok (.aload_n 1, 1) := by decide +kernel
theorem dX0_takeFrom_50 : decode cX0_takeFrom 50 = .ok (.getfield 21, 3) := by decide +kernel
theorem dX0_takeFrom_53 : decode cX0_takeFrom 53 = .ok (.iconst 0, 1) := by decide +kernel
theorem dX0_takeFrom_54 : decode cX0_takeFrom 54 = .ok (.aload_n 0, 1) := by decide +kernel
theorem dX0_takeFrom_55 : decode cX0_takeFrom 55 = .ok (.getfield 21, 3) := by decide +kernel
theorem dX0_takeFrom_58 : decode cX0_takeFrom 58 = .ok (.iconst 0, 1) := by decide +kernel
theorem dX0_takeFrom_59 : decode cX0_takeFrom 59 = .ok (.iconst 3, 1) := by decide +kernel
theorem dX0_takeFrom_60 : decode cX0_takeFrom 60 = .ok (.invokestatic 62, 3) := by decide +kernel
theorem dX0_takeFrom_63 : decode cX0_takeFrom 63 = .ok (.aload_n 1, 1) := by decide +kernel
theorem dX0_takeFrom_64 : decode cX0_takeFrom 64 = .ok (.getfield 24, 3) := by decide +kernel
theorem dX0_takeFrom_67 : decode cX0_takeFrom 67 = .ok (.iconst 0, 1) := by decide +kernel
theorem dX0_takeFrom_68 : decode cX0_takeFrom 68 = .ok (.aload_n 0, 1) := by decide +kernel
theorem dX0_takeFrom_69 : decode cX0_takeFrom 69 = .ok (.getfield 24, 3) := by decide +kernel
theorem dX0_takeFrom_72 : decode cX0_takeFrom 72 = .ok (.iconst 0, 1) := by decide +kernel
theorem dX0_takeFrom_73 : decode cX0_takeFrom 73 = .ok (.bipush 20, 2) := by decide +kernel
theorem dX0_takeFrom_75 : decode cX0_takeFrom 75 = .ok (.invokestatic 62, 3) := by decide +kernel
theorem dX0_takeFrom_78 : decode cX0_takeFrom 78 = .ok (.aload_n 1, 1) := by decide +kernel
theorem dX0_takeFrom_79 : decode cX0_takeFrom 79 = .ok (.getfield 27, 3) := by decide +kernel
theorem dX0_takeFrom_82 : decode cX0_takeFrom 82 = .ok (.iconst 0, 1) := by decide +kernel
theorem dX0_takeFrom_83 : decode cX0_takeFrom 83 = .ok (.aload_n 0, 1) := by decide +kernel
theorem dX0_takeFrom_84 : decode cX0_takeFrom 84 = .ok (.getfield 27, 3) := by decide +kernel
theorem dX0_takeFrom_87 : decode cX0_takeFrom 87 = .ok (.iconst 0, 1) := by decide +kernel
theorem dX0_takeFrom_88 : decode cX0_takeFrom 88 = .ok (.iconst 3, 1) := by decide +kernel
theorem dX0_takeFrom_89 : decode cX0_takeFrom 89 = .ok (.invokestatic 62, 3) := by decide +kernel
theorem dX0_takeFrom_92 : decode cX0_takeFrom 92 = .ok (.aload_n 1, 1) := by decide +kernel
theorem dX0_takeFrom_93 : decode cX0_takeFrom 93 = .ok (.getfield 30, 3) := by decide +kernel
theorem dX0_takeFrom_96 : decode cX0_takeFrom 96 = .ok (.iconst 0, 1) := by decide +kernel
theorem dX0_takeFrom_97 : decode cX0_takeFrom 97 = .ok (.aload_n 0, 1) := by decide +kernel
theorem dX0_takeFrom_98 : decode cX0_takeFrom 98 = .ok (.getfield 30, 3) := by decide +kernel
theorem dX0_takeFrom_101 : decode cX0_takeFrom 101 = .ok (.iconst 0, 1) := by decide +kernel
theorem dX0_takeFrom_102 : decode cX0_takeFrom 102 = .ok (.iconst 3, 1) := by decide +kernel
theorem dX0_takeFrom_103 : decode cX0_takeFrom 103 = .ok (.invokestatic 62, 3) := by decide +kernel
theorem dX0_takeFrom_106 : decode cX0_takeFrom 106 = .ok (.aload_n 1, 1) := by decide +kernel
theorem dX0_takeFrom_107 : decode cX0_takeFrom 107 = .ok (.getfield 33, 3) := by decide +kernel
theorem dX0_takeFrom_110 : decode cX0_takeFrom 110 = .ok (.iconst 0, 1) := by decide +kernel
theorem dX0_takeFrom_111 : decode cX0_takeFrom 111 = .ok (.aload_n 0, 1) := by decide +kernel
theorem dX0_takeFrom_112 : decode cX0_takeFrom 112 = .ok (.getfield 33, 3) := by decide +kernel
theorem dX0_takeFrom_115 : decode cX0_takeFrom 115 = .ok (.iconst 0, 1) := by decide +kernel
theorem dX0_takeFrom_116 : decode cX0_takeFrom 116 = .ok (.bipush 9, 2) := by decide +kernel
theorem dX0_takeFrom_118 : decode cX0_takeFrom 118 = .ok (.invokestatic 62, 3) := by decide +kernel
theorem dX0_takeFrom_121 : decode cX0_takeFrom 121 = .ok (.aload_n 0, 1) := by decide +kernel
theorem dX0_takeFrom_122 : decode cX0_takeFrom 122 = .ok (.aload_n 1, 1) := by decide +kernel
theorem dX0_takeFrom_123 : decode cX0_takeFrom 123 = .ok (.getfield 36, 3) := by decide +kernel
theorem dX0_takeFrom_126 : decode cX0_takeFrom 126 = .ok (.putfield 36, 3) := by decide +kernel
theorem dX0_takeFrom_129 : decode cX0_takeFrom 129 = .ok (.aload_n 0, 1) := by decide +kernel
theorem dX0_takeFrom_130 : decode cX0_takeFrom 130 = .ok (.aload_n 1, 1) := by decide +kernel
theorem dX0_takeFrom_131 : decode cX0_takeFrom 131 = .ok (.getfield 40, 3) := by decide +kernel
theorem dX0_takeFrom_134 : decode cX0_takeFrom 134 = .ok (.putfield 40, 3) := by decide +kernel
theorem dX0_takeFrom_137 : decode cX0_takeFrom 137 = .ok (.aload_n 0, 1) := by decide +kernel
theorem dX0_takeFrom_138 : decode cX0_takeFrom 138 = .ok (.aload_n 1, 1) := by decide +kernel
theorem dX0_takeFrom_139 : decode cX0_takeFrom 139 = .ok (.getfield 43, 3) := by decide +kernel
theorem dX0_takeFrom_142 : decode cX0_takeFrom 142 = .ok (.putfield 43, 3) := by decide +kernel
theorem dX0_takeFrom_145 : decode cX0_takeFrom 145 = .ok (.aload_n 0, 1) := by decide +kernel
theorem dX0_takeFrom_146 : decode cX0_takeFrom 146 = .ok (.aload_n 1, 1) := by decide +kernel
theorem dX0_takeFrom_147 : decode cX0_takeFrom 147 = .ok (.getfield 46, 3) := by decide +kernel
theorem dX0_takeFrom_150 : decode cX0_takeFrom 150 = .ok (.putfield 46, 3) := by decide +kernel
theorem dX0_takeFrom_153 : decode cX0_takeFrom 153 = .ok (.return_, 1) := by decide +kernel
theorem dX0_addMark_0 : decode cX0_addMark 0 = .ok (.aload_n 0, 1) := by decide +kernel
theorem dX0_addMark_1 : decode cX0_addMark 1 = .ok (.getfield 36, 3) := by decide +kernel
theorem dX0_addMark_4 : decode cX0_addMark 4 = .ok (.bipush 24, 2) := by decide +kernel
theorem dX0_addMark_6 : decode cX0_addMark 6 = .ok (.if_icmp .lt 6, 3) := by decide +kernel
theorem dX0_addMark_9 : decode cX0_addMark 9 = .ok (.ldc 68, 2) := by decide +kernel
theorem dX0_addMark_11 : decode cX0_addMark 11 = .ok (.ireturn, 1) := by decide +kernel
theorem dX0_addMark_12 : decode cX0_addMark 12 = .ok (.aload_n 0, 1) := by decide +kernel
theorem dX0_addMark_13 : decode cX0_addMark 13 = .ok (.getfield 11, 3) := by decide +kernel
theorem dX0_addMark_16 : decode cX0_addMark 16 = .ok (.aload_n 0, 1) := by decide +kernel
theorem dX0_addMark_17 : decode cX0_addMark 17 = .ok (.getfield 36, 3) := by decide +kernel
theorem dX0_addMark_20 : decode cX0_addMark 20 = .ok (.aaload, 1) := by decide +kernel
theorem dX0_addMark_21 : decode cX0_addMark 21 = .ok (.iload_n 1, 1) := by decide +kernel
theorem dX0_addMark_22 : decode cX0_addMark 22 = .ok (.iload_n 2, 1) := by decide +kernel
theorem dX0_addMark_23 : decode cX0_addMark 23 = .ok (.iload_n 3, 1) := by decide +kernel
theorem dX0_addMark_24 : decode cX0_addMark 24 = .ok (.iload 4, 2) := by decide +kernel
theorem dX0_addMark_26 : decode cX0_addMark 26 = .ok (.invokevirtual 69, 3) := by decide +kernel
theorem dX0_addMark_29 : decode cX0_addMark 29 = .ok (.aload_n 0, 1) := by decide +kernel
theorem dX0_addMark_30 : decode cX0_addMark 30 = .ok (.dup, 1) := by decide +kernel
theorem dX0_addMark_31 : decode cX0_addMark 31 = .ok (.getfield 36, 3) := by decide +kernel
theorem dX0_addMark_34 : decode cX0_addMark 34 = .ok (.iconst 1, 1) := by decide +kernel
theorem dX0_addMark_35 : decode cX0_addMark 35 = .ok (.iadd, 1) := by decide +kernel
theorem dX0_addMark_36 : decode cX0_addMark 36 = .ok (.putfield 36, 3) := by decide +kernel
theorem dX0_addMark_39 : decode cX0_addMark 39 = .ok (.aload_n 0, 1) := by decide +kernel
theorem dX0_addMark_40 : decode cX0_addMark 40 = .ok (.getfield 36, 3) := by decide +kernel
theorem dX0_addMark_43 : decode cX0_addMark 43 = .ok (.iconst 1, 1) := by decide +kernel
theorem dX0_addMark_44 : decode cX0_addMark 44 = .ok (.isub, 1) := by decide +kernel
theorem dX0_addMark_45 : decode cX0_addMark 45 = .ok (.ireturn, 1) := by decide +kernel
theorem dX0_marksPut_0 : decode cX0_marksPut 0 = .ok (.iconst 0, 1) := by decide +kernel
theorem dX0_marksPut_1 : decode cX0_marksPut 1 = .ok (.istore_n 1, 1) := by decide +kernel
theorem dX0_marksPut_2 : decode cX0_marksPut 2 = .ok (.iconst 0, 1) := by decide +kernel
theorem dX0_marksPut_3 : decode cX0_marksPut 3 = .ok (.istore_n 2, 1) := by decide +kernel
theorem dX0_marksPut_4 : decode cX0_marksPut 4 = .ok (.iload_n 2, 1) := by decide +kernel
theorem dX0_marksPut_5 : decode cX0_marksPut 5 = .ok (.aload_n 0, 1) := by decide +kernel
theorem dX0_marksPut_6 : decode cX0_marksPut 6 = .ok (.getfield 36, 3) := by decide +kernel
theorem dX0_marksPut_9 : decode cX0_marksPut 9 = .ok (.if_icmp .ge 31, 3) := by decide +kernel
theorem dX0_marksPut_12 : decode cX0_marksPut 12 = .ok (.iload_n 1, 1) := by decide +kernel
theorem dX0_marksPut_13 : decode cX0_marksPut 13 = .ok (.aload_n 0, 1) := by decide +kernel
theorem dX0_marksPut_14 : decode cX0_marksPut 14 = .ok (.getfield 11, 3) := by decide +kernel
theorem dX0_marksPut_17 : decode cX0_marksPut 17 = .ok (.iload_n 2, 1) := by decide +kernel
theorem dX0_marksPut_18 : decode cX0_marksPut 18 = .ok (.aaload, 1) := by decide +kernel
theorem dX0_marksPut_19 : decode cX0_marksPut 19 = .ok (.getfield 73, 3) := by decide +kernel
theorem dX0_marksPut_22 : decode cX0_marksPut 22 = .ok (.ldc 57, 2) := by decide +kernel
theorem dX0_marksPut_24 : decode cX0_marksPut 24 = .ok (.if_icmp .eq 7, 3) := by decide +kernel
theorem dX0_marksPut_27 : decode cX0_marksPut 27 = .ok (.iconst 1, 1) := by decide +kernel
theorem dX0_marksPut_28 : decode cX0_marksPut 28 = .ok (.goto 4, 3) := by decide +kernel
theorem dX0_marksPut_31 : decode cX0_marksPut 31 = .ok (.iconst 0, 1) := by decide +kernel
theorem dX0_marksPut_32 : decode cX0_marksPut 32 = .ok (.iadd, 1) := by decide +kernel
theorem dX0_marksPut_33 : decode cX0_marksPut 33 = .ok (.istore_n 1, 1) := by decide +kernel
theorem dX0_marksPut_34 : decode cX0_marksPut 34 = .ok (.iinc 2 1, 3) := by decide +kernel
theorem dX0_marksPut_37 : decode cX0_marksPut 37 = .ok (.goto (-33), 3) := by decide +kernel
theorem dX0_marksPut_40 : decode cX0_marksPut 40 = .ok (.iload_n 1, 1) := by decide +kernel
theorem dX0_marksPut_41 : decode cX0_marksPut 41 = .ok (.ireturn, 1) := by decide +kernel
theorem dX0_textFor_0 : decode cX0_textFor 0 = .ok (.aload_n 0, 1) := by decide +kernel
theorem dX0_textFor_1 : decode cX0_textFor 1 = .ok (.getfield 40, 3) := by decide +kernel
theorem dX0_textFor_4 : decode cX0_textFor 4 = .ok (.iconst 1, 1) := by decide +kernel
theorem dX0_textFor_5 : decode cX0_textFor 5 = .ok (.isub, 1) := by decide +kernel
theorem dX0_textFor_6 : decode cX0_textFor 6 = .ok (.istore_n 3, 1) := by decide +kernel
theorem dX0_textFor_7 : decode cX0_textFor 7 = .ok (.iload_n 3, 1) := by decide +kernel
theorem dX0_textFor_8 : decode cX0_textFor 8 = .ok (.ifCond .lt 37, 3) := by decide +kernel
theorem dX0_textFor_11 : decode cX0_textFor 11 = .ok (.aload_n 0, 1) := by decide +kernel
theorem dX0_textFor_12 : decode cX0_textFor 12 = .ok (.getfield 49, 3) := by decide +kernel
theorem dX0_textFor_15 : decode cX0_textFor 15 = .ok (.iload_n 3, 1) := by decide +kernel
theorem dX0_textFor_16 : decode cX0_textFor 16 = .ok (.aaload, 1) := by decide +kernel
theorem dX0_textFor_17 : decode cX0_textFor 17 = .ok (.getfield 76, 3) := by decide +kernel
theorem dX0_textFor_20 : decode cX0_textFor 20 = .ok (.iload_n 1, 1) := by decide +kernel
theorem dX0_textFor_21 : decode cX0_textFor 21 = .ok (.if_icmp .ne 18, 3) := by decide +kernel
theorem dX0_textFor_24 : decode cX0_textFor 24 = .ok (.aload_n 0, 1) := by decide +kernel
theorem dX0_textFor_25 : decode cX0_textFor 25 = .ok (.getfield 49, 3) := by decide +kernel
theorem dX0_textFor_28 : decode cX0_textFor 28 = .ok (.iload_n 3, 1) := by decide +kernel
theorem dX0_textFor_29 : decode cX0_textFor 29 = .ok (.aaload, 1) := by decide +kernel
theorem dX0_textFor_30 : decode cX0_textFor 30 = .ok (.getfield 81, 3) := by decide +kernel
theorem dX0_textFor_33 : decode cX0_textFor 33 = .ok (.iload_n 2, 1) := by decide +kernel
theorem dX0_textFor_34 : decode cX0_textFor 34 = .ok (.if_icmp .ne 5, 3) := by decide +kernel
theorem dX0_textFor_37 : decode cX0_textFor 37 = .ok (.iload_n 3, 1) := by decide +kernel
theorem dX0_textFor_38 : decode cX0_textFor 38 = .ok (.ireturn, 1) := by decide +kernel
theorem dX0_textFor_39 : decode cX0_textFor 39 = .ok (.iinc 3 (-1), 3) := by decide +kernel
theorem dX0_textFor_42 : decode cX0_textFor 42 = .ok (.goto (-35), 3) := by decide +kernel
theorem dX0_textFor_45 : decode cX0_textFor 45 = .ok (.ldc 57, 2) := by decide +kernel
theorem dX0_textFor_47 : decode cX0_textFor 47 = .ok (.ireturn, 1) := by decide +kernel
theorem dX0_lawFor_0 : decode cX0_lawFor 0 = .ok (.aload_n 0, 1) := by decide +kernel
theorem dX0_lawFor_1 : decode cX0_lawFor 1 = .ok (.aload_n 1, 1) := by decide +kernel
theorem dX0_lawFor_2 : decode cX0_lawFor 2 = .ok (.getfield 84, 3) := by decide +kernel
theorem dX0_lawFor_5 : decode cX0_lawFor 5 = .ok (.iload_n 2, 1) := by decide +kernel
theorem dX0_lawFor_6 : decode cX0_lawFor 6 = .ok (.invokevirtual 85, 3) := by decide +kernel
theorem dX0_lawFor_9 : decode cX0_lawFor 9 = .ok (.istore 4, 2) := by decide +kernel
theorem dX0_lawFor_11 : decode cX0_lawFor 11 = .ok (.iload 4, 2) := by decide +kernel
theorem dX0_lawFor_13 : decode cX0_lawFor 13 = .ok (.ldc 57, 2) := by decide +kernel
theorem dX0_lawFor_15 : decode cX0_lawFor 15 = .ok (.if_icmp .ne 7, 3) := by decide +kernel
theorem dX0_lawFor_18 : decode cX0_lawFor 18 = .ok (.iload_n 3, 1) := by decide +kernel
theorem dX0_lawFor_19 : decode cX0_lawFor 19 = .ok (.goto 18, 3) := by decide +kernel
theorem dX0_lawFor_22 : decode cX0_lawFor 22 = .ok (.aload_n 0, 1) := by decide +kernel
theorem dX0_lawFor_23 : decode cX0_lawFor 23 = .ok (.getfield 49, 3) := by decide +kernel
theorem dX0_lawFor_26 : decode cX0_lawFor 26 = .ok (.iload 4, 2) := by decide +kernel
theorem dX0_lawFor_28 : decode cX0_lawFor 28 = .ok (.aaload, 1) := by decide +kernel
theorem dX0_lawFor_29 : decode cX0_lawFor 29 = .ok (.aload_n 1, 1) := by decide +kernel
theorem dX0_lawFor_30 : decode cX0_lawFor 30 = .ok (.aload_n 0, 1) := by decide +kernel
theorem dX0_lawFor_31 : decode cX0_lawFor 31 = .ok (.getfield 53, 3) := by decide +kernel
theorem dX0_lawFor_34 : decode cX0_lawFor 34 = .ok (.invokevirtual 89, 3) := by decide +kernel
theorem dX0_lawFor_37 : decode cX0_lawFor 37 = .ok (.ireturn, 1) := by decide +kernel
theorem dX0_logOf_0 : decode cX0_logOf 0 = .ok (.aload_n 0, 1) := by decide +kernel
theorem dX0_logOf_1 : decode cX0_logOf 1 = .ok (.aload_n 1, 1) := by decide +kernel
theorem dX0_logOf_2 : decode cX0_logOf 2 = .ok (.iconst 0, 1) := by decide +kernel
theorem dX0_logOf_3 : decode cX0_logOf 3 = .ok (.bipush 100, 2) := by decide +kernel
theorem dX0_logOf_5 : decode cX0_logOf 5 = .ok (.invokevirtual 93, 3) := by decide +kernel
theorem dX0_logOf_8 : decode cX0_logOf 8 = .ok (.i2l, 1) := by decide +kernel
theorem dX0_logOf_9 : decode cX0_logOf 9 = .ok (.iconst 1, 1) := by decide +kernel
theorem dX0_logOf_10 : decode cX0_logOf 10 = .ok (.sipush 400, 3) := by decide +kernel
theorem dX0_logOf_13 : decode cX0_logOf 13 = .ok (.invokestatic 97, 3) := by decide +kernel
theorem dX0_logOf_16 : decode cX0_logOf 16 = .ok (.ireturn, 1) := by decide +kernel
theorem dX0_needleOf_0 : decode cX0_needleOf 0 = .ok (.aload_n 0, 1) := by decide +kernel
theorem dX0_needleOf_1 : decode cX0_needleOf 1 = .ok (.aload_n 1, 1) := by decide +kernel
theorem dX0_needleOf_2 : decode cX0_needleOf 2 = .ok (.iconst 1, 1) := by decide +kernel
theorem dX0_needleOf_3 : decode cX0_needleOf 3 = .ok (.iconst 0, 1) := by decide +kernel
theorem dX0_needleOf_4 : decode cX0_needleOf 4 = .ok (.invokevirtual 93, 3) := by decide +kernel
theorem dX0_needleOf_7 : decode cX0_needleOf 7 = .ok (.i2l, 1) := by decide +kernel
theorem dX0_needleOf_8 : decode cX0_needleOf 8 = .ok (.sipush (-200), 3) := by decide +kernel
theorem dX0_needleOf_11 : decode cX0_needleOf 11 = .ok (.sipush 200, 3) := by decide +kernel
theorem dX0_needleOf_14 : decode cX0_needleOf 14 = .ok (.invokestatic 97, 3) := by decide +kernel
theorem dX0_needleOf_17 : decode cX0_needleOf 17 = .ok (.ireturn, 1) := by decide +kernel
theorem dX0_watchOf_0 : decode cX0_watchOf 0 = .ok (.aload_n 1, 1) := by decide +kernel
theorem dX0_watchOf_1 : decode cX0_watchOf 1 = .ok (.getfield 101, 3) := by decide +kernel
theorem dX0_watchOf_4 : decode cX0_watchOf 4 = .ok (.aload_n 0, 1) := by decide +kernel
theorem dX0_watchOf_5 : decode cX0_watchOf 5 = .ok (.getfield 27, 3) := by decide +kernel
theorem dX0_watchOf_8 : decode cX0_watchOf 8 = .ok (.aload_n 1, 1) := by decide +kernel
theorem dX0_watchOf_9 : decode cX0_watchOf 9 = .ok (.getfield 84, 3) := by decide +kernel
theorem dX0_watchOf_12 : decode cX0_watchOf 12 = .ok (.iaload, 1) := by decide +kernel
theorem dX0_watchOf_13 : decode cX0_watchOf 13 = .ok (.if_icmp .lt 15, 3) := by decide +kernel
theorem dX0_watchOf_16 : decode cX0_watchOf 16 = .ok (.aload_n 0, 1) := by decide +kernel
theorem dX0_watchOf_17 : decode cX0_watchOf 17 = .ok (.getfield 30, 3) := by decide +kernel
theorem dX0_watchOf_20 : decode cX0_watchOf 20 = .ok (.aload_n 1, 1) := by decide +kernel
theorem dX0_watchOf_21 : decode cX0_watchOf 21 = .ok (.getfield 84, 3) := by decide +kernel
theorem dX0_watchOf_24 : decode cX0_watchOf 24 = .ok (.iaload, 1) := by decide +kernel
theorem dX0_watchOf_25 : decode cX0_watchOf 25 = .ok (.goto 4, 3) := by decide +kernel
theorem dX0_watchOf_28 : decode cX0_watchOf 28 = .ok (.iconst 0, 1) := by decide +kernel
theorem dX0_watchOf_29 : decode cX0_watchOf 29 = .ok (.istore_n 2, 1) := by decide +kernel
theorem dX0_watchOf_30 : decode cX0_watchOf 30 = .ok (.aload_n 0, 1) := by decide +kernel
theorem dX0_watchOf_31 : decode cX0_watchOf 31 = .ok (.aload_n 1, 1) := by decide +kernel
theorem dX0_watchOf_32 : decode cX0_watchOf 32 = .ok (.iconst 2, 1) := by decide +kernel
theorem dX0_watchOf_33 : decode cX0_watchOf 33 = .ok (.iconst 0, 1) := by decide +kernel
theorem dX0_watchOf_34 : decode cX0_watchOf 34 = .ok (.invokevirtual 93, 3) := by decide +kernel
theorem dX0_watchOf_37 : decode cX0_watchOf 37 = .ok (.iload_n 2, 1) := by decide +kernel
theorem dX0_watchOf_38 : decode cX0_watchOf 38 = .ok (.invokestatic 104, 3) := by decide +kernel
theorem dX0_watchOf_41 : decode cX0_watchOf 41 = .ok (.ireturn, 1) := by decide +kernel
theorem dX0_watchWith_0 : decode cX0_watchWith 0 = .ok (.iload_n 0, 1) := by decide +kernel
theorem dX0_watchWith_1 : decode cX0_watchWith 1 = .ok (.i2l, 1) := by decide +kernel
theorem dX0_watchWith_2 : decode cX0_watchWith 2 = .ok (.iload_n 1, 1) := by decide +kernel
theorem dX0_watchWith_3 : decode cX0_watchWith 3 = .ok (.i2l, 1) := by decide +kernel
theorem dX0_watchWith_4 : decode cX0_watchWith 4 = .ok (.ladd, 1) := by decide +kernel
theorem dX0_watchWith_5 : decode cX0_watchWith 5 = .ok (.sipush (-200), 3) := by decide +kernel
theorem dX0_watchWith_8 : decode cX0_watchWith 8 = .ok (.sipush 200, 3) := by decide +kernel
theorem dX0_watchWith_11 : decode cX0_watchWith 11 = .ok (.invokestatic 97, 3) := by decide +kernel
theorem dX0_watchWith_14 : decode cX0_watchWith 14 = .ok (.ireturn, 1) := by decide +kernel
theorem dX0_saysOf_0 : decode cX0_saysOf 0 = .ok (.aload_n 1, 1) := by decide +kernel
theorem dX0_saysOf_1 : decode cX0_saysOf 1 = .ok (.getfield 107, 3) := by decide +kernel
theorem dX0_saysOf_4 : decode cX0_saysOf 4 = .ok (.aload_n 1, 1) := by decide +kernel
theorem dX0_saysOf_5 : decode cX0_saysOf 5 = .ok (.getfield 110, 3) := by decide +kernel
theorem dX0_saysOf_8 : decode cX0_saysOf 8 = .ok (.bipush 10, 2) := by decide +kernel
theorem dX0_saysOf_10 : decode cX0_saysOf 10 = .ok (.idiv, 1) := by decide +kernel
theorem dX0_saysOf_11 : decode cX0_saysOf 11 = .ok (.iadd, 1) := by decide +kernel
theorem dX0_saysOf_12 : decode cX0_saysOf 12 = .ok (.istore_n 2, 1) := by decide +kernel
theorem dX0_saysOf_13 : decode cX0_saysOf 13 = .ok (.aload_n 1, 1) := by decide +kernel
theorem dX0_saysOf_14 : decode cX0_saysOf 14 = .ok (.getfield 113, 3) := by decide +kernel
theorem dX0_saysOf_17 : decode cX0_saysOf 17 = .ok (.tableswitch 97 1 7 #[43, 57, 68, 79, 81, 97, 87], 43) := by decide +kernel
theorem dX0_saysOf_60 : decode cX0_saysOf 60 = .ok (.aload_n 1, 1) := by decide +kernel
theorem dX0_saysOf_61 : decode cX0_saysOf 61 = .ok (.getfield 107, 3) := by decide +kernel
theorem dX0_saysOf_64 : decode cX0_saysOf 64 = .ok (.aload_n 0, 1) := by decide +kernel
theorem dX0_saysOf_65 : decode cX0_saysOf 65 = .ok (.aload_n 1, 1) := by decide +kernel
theorem dX0_saysOf_66 : decode cX0_saysOf 66 = .ok (.invokevirtual 116, 3) := by decide +kernel
theorem dX0_saysOf_69 : decode cX0_saysOf 69 = .ok (.imul, 1) := by decide +kernel
theorem dX0_saysOf_70 : decode cX0_saysOf 70 = .ok (.bipush 100, 2) := by decide +kernel
theorem dX0_saysOf_72 : decode cX0_saysOf 72 = .ok (.idiv, 1) := by decide +kernel
theorem dX0_saysOf_73 : decode cX0_saysOf 73 = .ok (.ireturn, 1) := by decide +kernel
theorem dX0_saysOf_74 : decode cX0_saysOf 74 = .ok (.aload_n 1, 1) := by decide +kernel
theorem dX0_saysOf_75 : decode cX0_saysOf 75 = .ok (.getfield 107, 3) := by decide +kernel
theorem dX0_saysOf_78 : decode cX0_saysOf 78 = .ok (.aload_n 0, 1) := by decide +kernel
theorem dX0_saysOf_79 : decode cX0_saysOf 79 = .ok (.aload_n 1, 1) := by decide +kernel
theorem dX0_saysOf_80 : decode cX0_saysOf 80 = .ok (.invokevirtual 120, 3) := by decide +kernel
theorem dX0_saysOf_83 : decode cX0_saysOf 83 = .ok (.iadd, 1) := by decide +kernel
theorem dX0_saysOf_84 : decode cX0_saysOf 84 = .ok (.ireturn, 1) := by decide +kernel
theorem dX0_saysOf_85 : decode cX0_saysOf 85 = .ok (.aload_n 1, 1) := by decide +kernel
theorem dX0_saysOf_86 : decode cX0_saysOf 86 = .ok (.getfield 107, 3) := by decide +kernel
theorem dX0_saysOf_89 : decode cX0_saysOf 89 = .ok (.aload_n 0, 1) := by decide +kernel
theorem dX0_saysOf_90 : decode cX0_saysOf 90 = .ok (.aload_n 1, 1) := by decide +kernel
theorem dX0_saysOf_91 : decode cX0_saysOf 91 = .ok (.invokevirtual 123, 3) := by decide +kernel
theorem dX0_saysOf_94 : decode cX0_saysOf 94 = .ok (.iadd, 1) := by decide +kernel
theorem dX0_saysOf_95 : decode cX0_saysOf 95 = .ok (.ireturn, 1) := by decide +kernel
theorem dX0_saysOf_96 : decode cX0_saysOf 96 = .ok (.iload_n 2, 1) := by decide +kernel
theorem dX0_saysOf_97 : decode cX0_saysOf 97 = .ok (.ireturn, 1) := by decide +kernel
theorem dX0_saysOf_98 : decode cX0_saysOf 98 = .ok (.iload_n 2, 1) := by decide +kernel
theorem dX0_saysOf_99 : decode cX0_saysOf 99 = .ok (.iconst 5, 1) := by decide +kernel
theorem dX0_saysOf_100 : decode cX0_saysOf 100 = .ok (.idiv, 1) := by decide +kernel
theorem dX0_saysOf_101 : decode cX0_saysOf 101 = .ok (.iconst 5, 1) := by decide +kernel
theorem dX0_saysOf_102 : decode cX0_saysOf 102 = .ok (.imul, 1) := by decide +kernel
theorem dX0_saysOf_103 : decode cX0_saysOf 103 = .ok (.ireturn, 1) := by decide +kernel
theorem dX0_saysOf_104 : decode cX0_saysOf 104 = .ok (.iload_n 2, 1) := by decide +kernel
theorem dX0_saysOf_105 : decode cX0_saysOf 105 = .ok (.aload_n 1, 1) := by decide +kernel
theorem dX0_saysOf_106 : decode cX0_saysOf 106 = .ok (.getfield 110, 3) := by decide +kernel
theorem dX0_saysOf_109 : decode cX0_saysOf 109 = .ok (.bipush 10, 2) := by decide +kernel
theorem dX0_saysOf_111 : decode cX0_saysOf 111 = .ok (.idiv, 1) := by decide +kernel
theorem dX0_saysOf_112 : decode cX0_saysOf 112 = .ok (.isub, 1) := by decide +kernel
theorem dX0_saysOf_113 : decode cX0_saysOf 113 = .ok (.ireturn, 1) := by decide +kernel
theorem dX0_saysOf_114 : decode cX0_saysOf 114 = .ok (.aload_n 1, 1) := by decide +kernel
theorem dX0_saysOf_115 : decode cX0_saysOf 115 = .ok (.getfield 107, 3) := by decide +kernel
theorem dX0_saysOf_118 : decode cX0_saysOf 118 = .ok (.ireturn, 1) := by decide +kernel
theorem dX0_chosenMark_0 : decode cX0_chosenMark 0 = .ok (.aload_n 0, 1) := by decide +kernel
theorem dX0_chosenMark_1 : decode cX0_chosenMark 1 = .ok (.getfield 11, 3) := by decide +kernel
theorem dX0_chosenMark_4 : decode cX0_chosenMark 4 = .ok (.aload_n 0, 1) := by decide +kernel
theorem dX0_chosenMark_5 : decode cX0_chosenMark 5 = .ok (.getfield 17, 3) := by decide +kernel
theorem dX0_chosenMark_8 : decode cX0_chosenMark 8 = .ok (.iload_n 1, 1) := by decide +kernel
theorem dX0_chosenMark_9 : decode cX0_chosenMark 9 = .ok (.iconst 5, 1) := by decide +kernel
theorem dX0_chosenMark_10 : decode cX0_chosenMark 10 = .ok (.imul, 1) := by decide +kernel
theorem dX0_chosenMark_11 : decode cX0_chosenMark 11 = .ok (.iload_n 2, 1) := by decide +kernel
theorem dX0_chosenMark_12 : decode cX0_chosenMark 12 = .ok (.iadd, 1) := by decide +kernel
theorem dX0_chosenMark_13 : decode cX0_chosenMark 13 = .ok (.iaload, 1) := by decide +kernel
theorem dX0_chosenMark_14 : decode cX0_chosenMark 14 = .ok (.aaload, 1) := by decide +kernel
theorem dX0_chosenMark_15 : decode cX0_chosenMark 15 = .ok (.areturn, 1) := by decide +kernel
theorem dX0_isChosen_0 : decode cX0_isChosen 0 = .ok (.aload_n 0, 1) := by decide +kernel
theorem dX0_isChosen_1 : decode cX0_isChosen 1 = .ok (.getfield 11, 3) := by decide +kernel
theorem dX0_isChosen_4 : decode cX0_isChosen 4 = .ok (.iload_n 1, 1) := by decide +kernel
theorem dX0_isChosen_5 : decode cX0_isChosen 5 = .ok (.aaload, 1) := by decide +kernel
theorem dX0_isChosen_6 : decode cX0_isChosen 6 = .ok (.getfield 84, 3) := by decide +kernel
theorem dX0_isChosen_9 : decode cX0_isChosen 9 = .ok (.istore_n 2, 1) := by decide +kernel
theorem dX0_isChosen_10 : decode cX0_isChosen 10 = .ok (.iconst 0, 1) := by decide +kernel
theorem dX0_isChosen_11 : decode cX0_isChosen 11 = .ok (.istore_n 3, 1) := by decide +kernel
theorem dX0_isChosen_12 : decode cX0_isChosen 12 = .ok (.iload_n 3, 1) := by decide +kernel
theorem dX0_isChosen_13 : decode cX0_isChosen 13 = .ok (.aload_n 0, 1) := by decide +kernel
theorem dX0_isChosen_14 : decode cX0_isChosen 14 = .ok (.getfield 21, 3) := by decide +kernel
theorem dX0_isChosen_17 : decode cX0_isChosen 17 = .ok (.iload_n 2, 1) := by decide +kernel
theorem dX0_isChosen_18 : decode cX0_isChosen 18 = .ok (.iaload, 1) := by decide +kernel
theorem dX0_isChosen_19 : decode cX0_isChosen 19 = .ok (.if_icmp .ge 25, 3) := by decide +kernel
theorem dX0_isChosen_22 : decode cX0_isChosen 22 = .ok (.aload_n 0, 1) := by decide +kernel
theorem dX0_isChosen_23 : decode cX0_isChosen 23 = .ok (.getfield 17, 3) := by decide +kernel
theorem dX0_isChosen_26 : decode cX0_isChosen 26 = .ok (.iload_n 2, 1) := by decide +kernel
theorem dX0_isChosen_27 : decode cX0_isChosen 27 = .ok (.iconst 5, 1) := by decide +kernel
theorem dX0_isChosen_28 : decode cX0_isChosen 28 = .ok (.imul, 1) := by decide +kernel
theorem dX0_isChosen_29 : decode cX0_isChosen 29 = .ok (.iload_n 3, 1) := by decide +kernel
theorem dX0_isChosen_30 : decode cX0_isChosen 30 = .ok (.iadd, 1) := by decide +kernel
theorem dX0_isChosen_31 : decode cX0_isChosen 31 = .ok (.iaload, 1) := by decide +kernel
theorem dX0_isChosen_32 : decode cX0_isChosen 32 = .ok (.iload_n 1, 1) := by decide +kernel
theorem dX0_isChosen_33 : decode cX0_isChosen 33 = .ok (.if_icmp .ne 5, 3) := by decide +kernel
theorem dX0_isChosen_36 : decode cX0_isChosen 36 = .ok (.iconst 1, 1) := by decide +kernel
theorem dX0_isChosen_37 : decode cX0_isChosen 37 = .ok (.ireturn, 1) := by decide +kernel
theorem dX0_isChosen_38 : decode cX0_isChosen 38 = .ok (.iinc 3 1, 3) := by decide +kernel
theorem dX0_isChosen_41 : decode cX0_isChosen 41 = .ok (.goto (-29), 3) := by decide +kernel
theorem dX0_isChosen_44 : decode cX0_isChosen 44 = .ok (.iconst 0, 1) := by decide +kernel
theorem dX0_isChosen_45 : decode cX0_isChosen 45 = .ok (.ireturn, 1) := by decide +kernel
theorem dX0_chosenInAll_0 : decode cX0_chosenInAll 0 = .ok (.iconst 0, 1) := by decide +kernel
theorem dX0_chosenInAll_1 : decode cX0_chosenInAll 1 = .ok (.istore_n 1, 1) := by decide +kernel
theorem dX0_chosenInAll_2 : decode cX0_chosenInAll 2 = .ok (.iconst 0, 1) := by decide +kernel
theorem dX0_chosenInAll_3 : decode cX0_chosenInAll 3 = .ok (.istore_n 2, 1) := by decide +kernel
theorem dX0_chosenInAll_4 : decode cX0_chosenInAll 4 = .ok (.iload_n 2, 1) := by decide +kernel
theorem dX0_chosenInAll_5 : decode cX0_chosenInAll 5 = .ok (.iconst 3, 1) := by decide +kernel
theorem dX0_chosenInAll_6 : decode cX0_chosenInAll 6 = .ok (.if_icmp .ge 18, 3) := by decide +kernel
theorem dX0_chosenInAll_9 : decode cX0_chosenInAll 9 = .ok (.iload_n 1, 1) := by decide +kernel
theorem dX0_chosenInAll_10 : decode cX0_chosenInAll 10 = .ok (.aload_n 0, 1) := by decide +kernel
theorem dX0_chosenInAll_11 : decode cX0_chosenInAll 11 = .ok (.getfield 21, 3) := by decide +kernel
theorem dX0_chosenInAll_14 : decode cX0_chosenInAll 14 = .ok (.iload_n 2, 1) := by decide +kernel
theorem dX0_chosenInAll_15 : decode cX0_chosenInAll 15 = .ok (.iaload, 1) := by decide +kernel
theorem dX0_chosenInAll_16 : decode cX0_chosenInAll 16 = .ok (.iadd, 1) := by decide +kernel
theorem dX0_chosenInAll_17 : decode cX0_chosenInAll 17 = .ok (.istore_n 1, 1) := by decide +kernel
theorem dX0_chosenInAll_18 : decode cX0_chosenInAll 18 = .ok (.iinc 2 1, 3) := by decide +kernel
theorem dX0_chosenInAll_21 : decode cX0_chosenInAll 21 = .ok (.goto (-17), 3) := by decide +kernel
theorem dX0_chosenInAll_24 : decode cX0_chosenInAll 24 = .ok (.iload_n 1, 1) := by decide +kernel
theorem dX0_chosenInAll_25 : decode cX0_chosenInAll 25 = .ok (.ireturn, 1) := by decide +kernel
theorem dX0_passagesOf_0 : decode cX0_passagesOf 0 = .ok (.iload_n 1, 1) := by decide +kernel
theorem dX0_passagesOf_1 : decode cX0_passagesOf 1 = .ok (.iload_n 2, 1) := by decide +kernel
theorem dX0_passagesOf_2 : decode cX0_passagesOf 2 = .ok (.iload_n 3, 1) := by decide +kernel
theorem dX0_passagesOf_3 : decode cX0_passagesOf 3 = .ok (.invokestatic 126, 3) := by decide +kernel
theorem dX0_passagesOf_6 : decode cX0_passagesOf 6 = .ok (.istore 4, 2) := by decide +kernel
theorem dX0_passagesOf_8 : decode cX0_passagesOf 8 = .ok (.iconst 0, 1) := by decide +kernel
theorem dX0_passagesOf_9 : decode cX0_passagesOf 9 = .ok (.istore 5, 2) := by decide +kernel
theorem dX0_passagesOf_11 : decode cX0_passagesOf 11 = .ok (.iconst 0, 1) := by decide +kernel
theorem dX0_passagesOf_12 : decode cX0_passagesOf 12 = .ok (.istore 6, 2) := by decide +kernel
theorem dX0_passagesOf_14 : decode cX0_passagesOf 14 = .ok (.iload 6, 2) := by decide +kernel
theorem dX0_passagesOf_16 : decode cX0_passagesOf 16 = .ok (.aload_n 0, 1) := by decide +kernel
theorem dX0_passagesOf_17 : decode cX0_passagesOf 17 = .ok (.getfield 43, 3) := by decide +kernel
theorem dX0_passagesOf_20 : decode cX0_passagesOf 20 = .ok (.if_icmp .ge 31, 3) := by decide +kernel
theorem dX0_passagesOf_23 : decode cX0_passagesOf 23 = .ok (.iload 5, 2) := by decide +kernel
theorem dX0_passagesOf_25 : decode cX0_passagesOf 25 = .ok (.aload_n 0, 1) := by decide +kernel
theorem dX0_passagesOf_26 : decode cX0_passagesOf 26 = .ok (.getfield 24, 3) := by decide +kernel
theorem dX0_passagesOf_29 : decode cX0_passagesOf 29 = .ok (.iload 6, 2) := by decide +kernel
theorem dX0_passagesOf_31 : decode cX0_passagesOf 31 = .ok (.iaload, 1) := by decide +kernel
theorem dX0_passagesOf_32 : decode cX0_passagesOf 32 = .ok (.iload 4, 2) := by decide +kernel
theorem dX0_passagesOf_34 : decode cX0_passagesOf 34 = .ok (.if_icmp .ne 7, 3) := by decide +kernel
theorem dX0_passagesOf_37 : decode cX0_passagesOf 37 = .ok (.iconst 1, 1) := by decide +kernel
theorem dX0_passagesOf_38 : decode cX0_passagesOf 38 = .ok (.goto 4, 3) := by decide +kernel
theorem dX0_passagesOf_41 : decode cX0_passagesOf 41 = .ok (.iconst 0, 1) := by decide +kernel
theorem dX0_passagesOf_42 : decode cX0_passagesOf 42 = .ok (.iadd, 1) := by decide +kernel
theorem dX0_passagesOf_43 : decode cX0_passagesOf 43 = .ok (.istore 5, 2) := by decide +kernel
theorem dX0_passagesOf_45 : decode cX0_passagesOf 45 = .ok (.iinc 6 1, 3) := by decide +kernel
theorem dX0_passagesOf_48 : decode cX0_passagesOf 48 = .ok (.goto (-34), 3) := by decide +kernel
theorem dX0_passagesOf_51 : decode cX0_passagesOf 51 = .ok (.iload 5, 2) := by decide +kernel
theorem dX0_passagesOf_53 : decode cX0_passagesOf 53 = .ok (.ireturn, 1) := by decide +kernel
theorem dX0_capesNamed_0 : decode cX0_capesNamed 0 = .ok (.iconst 0, 1) := by decide +kernel
theorem dX0_capesNamed_1 : decode cX0_capesNamed 1 = .ok (.istore_n 2, 1) := by decide +kernel
theorem dX0_capesNamed_2 : decode cX0_capesNamed 2 = .ok (.iconst 0, 1) := by decide +kernel
theorem dX0_capesNamed_3 : decode cX0_capesNamed 3 = .ok (.istore_n 3, 1) := by decide +kernel
theorem dX0_capesNamed_4 : decode cX0_capesNamed 4 = .ok (.iload_n 3, 1) := by decide +kernel
theorem dX0_capesNamed_5 : decode cX0_capesNamed 5 = .ok (.aload_n 0, 1) := by decide +kernel
theorem dX0_capesNamed_6 : decode cX0_capesNamed 6 = .ok (.getfield 36, 3) := by decide +kernel
theorem dX0_capesNamed_9 : decode cX0_capesNamed 9 = .ok (.if_icmp .ge 50, 3) := by decide +kernel
theorem dX0_capesNamed_12 : decode cX0_capesNamed 12 = .ok (.aload_n 0, 1) := by decide +kernel
theorem dX0_capesNamed_13 : decode cX0_capesNamed 13 = .ok (.getfield 11, 3) := by decide +kernel
theorem dX0_capesNamed_16 : decode cX0_capesNamed 16 = .ok (.iload_n 3, 1) := by decide +kernel
theorem dX0_capesNamed_17 : decode cX0_capesNamed 17 = .ok (.aaload, 1) := by decide +kernel
theorem dX0_capesNamed_18 : decode cX0_capesNamed 18 = .ok (.getfield 130, 3) := by decide +kernel
theorem dX0_capesNamed_21 : decode cX0_capesNamed 21 = .ok (.iload_n 1, 1) := by decide +kernel
theorem dX0_capesNamed_22 : decode cX0_capesNamed 22 = .ok (.if_icmp .ne 31, 3) := by decide +kernel
theorem dX0_capesNamed_25 : decode cX0_capesNamed 25 = .ok (.aload_n 0, 1) := by decide +kernel
theorem dX0_capesNamed_26 : decode cX0_capesNamed 26 = .ok (.getfield 11, 3) := by decide +kernel
theorem dX0_capesNamed_29 : decode cX0_capesNamed 29 = .ok (.iload_n 3, 1) := by decide +kernel
theorem dX0_capesNamed_30 : decode cX0_capesNamed 30 = .ok (.aaload, 1) := by decide +kernel
theorem dX0_capesNamed_31 : decode cX0_capesNamed 31 = .ok (.getfield 73, 3) := by decide +kernel
theorem dX0_capesNamed_34 : decode cX0_capesNamed 34 = .ok (.ldc 57, 2) := by decide +kernel
theorem dX0_capesNamed_36 : decode cX0_capesNamed 36 = .ok (.if_icmp .eq 17, 3) := by decide +kernel
theorem dX0_capesNamed_39 : decode cX0_capesNamed 39 = .ok (.iload_n 2, 1) := by decide +kernel
theorem dX0_capesNamed_40 : decode cX0_capesNamed 40 = .ok (.iconst 1, 1) := by decide +kernel
theorem dX0_capesNamed_41 : decode cX0_capesNamed 41 = .ok (.aload_n 0, 1) := by decide +kernel
theorem dX0_capesNamed_42 : decode cX0_capesNamed 42 = .ok (.getfield 11, 3) := by decide +kernel
theorem dX0_capesNamed_45 : decode cX0_capesNamed 45 = .ok (.iload_n 3, 1) := by decide +kernel
theorem dX0_capesNamed_46 : decode cX0_capesNamed 46 = .ok (.aaload, 1) := by decide +kernel
theorem dX0_capesNamed_47 : decode cX0_capesNamed 47 = .ok (.getfield 73, 3) := by decide +kernel
theorem dX0_capesNamed_50 : decode cX0_capesNamed 50 = .ok (.ishl, 1) := by decide +kernel
theorem dX0_capesNamed_51 : decode cX0_capesNamed 51 = .ok (.ior, 1) := by decide +kernel
theorem dX0_capesNamed_52 : decode cX0_capesNamed 52 = .ok (.istore_n 2, 1) := by decide +kernel
theorem dX0_capesNamed_53 : decode cX0_capesNamed 53 = .ok (.iinc 3 1, 3) := by decide +kernel
theorem dX0_capesNamed_56 : decode cX0_capesNamed 56 = .ok (.goto (-52), 3) := by decide +kernel
theorem dX0_capesNamed_59 : decode cX0_capesNamed 59 = .ok (.iload_n 2, 1) := by decide +kernel
theorem dX0_capesNamed_60 : decode cX0_capesNamed 60 = .ok (.ireturn, 1) := by decide +kernel
theorem dX0_surveyedInAll_0 : decode cX0_surveyedInAll 0 = .ok (.iconst 0, 1) := by decide +kernel
theorem dX0_surveyedInAll_1 : decode cX0_surveyedInAll 1 = .ok (.istore_n 1, 1) := by decide +kernel
theorem dX0_surveyedInAll_2 : decode cX0_surveyedInAll 2 = .ok (.iconst 0, 1) := by decide +kernel
theorem dX0_surveyedInAll_3 : decode cX0_surveyedInAll 3 = .ok (.istore_n 2, 1) := by decide +kernel
theorem dX0_surveyedInAll_4 : decode cX0_surveyedInAll 4 = .ok (.iload_n 2, 1) := by decide +kernel
theorem dX0_surveyedInAll_5 : decode cX0_surveyedInAll 5 = .ok (.bipush 9, 2) := by decide +kernel
theorem dX0_surveyedInAll_7 : decode cX0_surveyedInAll 7 = .ok (.if_icmp .ge 28, 3) := by decide +kernel
theorem dX0_surveyedInAll_10 : decode cX0_surveyedInAll 10 = .ok (.iload_n 1, 1) := by decide +kernel
theorem dX0_surveyedInAll_11 : decode cX0_surveyedInAll 11 = .ok (.aload_n 0, 1) := by decide +kernel
theorem dX0_surveyedInAll_12 : decode cX0_surveyedInAll 12 = .ok (.getfield 33, 3) := by decide +kernel
theorem dX0_surveyedInAll_15 : decode cX0_surveyedInAll 15 = .ok (.iload_n 2, 1) := by decide +kernel
theorem dX0_surveyedInAll_16 : decode cX0_surveyedInAll 16 = .ok (.iaload, 1) := by decide +kernel
theorem dX0_surveyedInAll_17 : decode cX0_surveyedInAll 17 = .ok (.ldc 57, 2) := by decide +kernel
theorem dX0_surveyedInAll_19 : decode cX0_surveyedInAll 19 = .ok (.if_icmp .eq 7, 3) := by decide +kernel
theorem dX0_surveyedInAll_22 : decode cX0_surveyedInAll 22 = .ok (.iconst 1, 1) := by decide +kernel
theorem dX0_surveyedInAll_23 : decode cX0_surveyedInAll 23 = .ok (.goto 4, 3) := by decide +kernel
theorem dX0_surveyedInAll_26 : decode cX0_surveyedInAll 26 = .ok (.iconst 0, 1) := by decide +kernel
theorem dX0_surveyedInAll_27 : decode cX0_surveyedInAll 27 = .ok (.iadd, 1) := by decide +kernel
theorem dX0_surveyedInAll_28 : decode cX0_surveyedInAll 28 = .ok (.istore_n 1, 1) := by decide +kernel
theorem dX0_surveyedInAll_29 : decode cX0_surveyedInAll 29 = .ok (.iinc 2 1, 3) := by decide +kernel
theorem dX0_surveyedInAll_32 : decode cX0_surveyedInAll 32 = .ok (.goto (-28), 3) := by decide +kernel
theorem dX0_surveyedInAll_35 : decode cX0_surveyedInAll 35 = .ok (.iload_n 1, 1) := by decide +kernel
theorem dX0_surveyedInAll_36 : decode cX0_surveyedInAll 36 = .ok (.ireturn, 1) := by decide +kernel
theorem dX0_isToBeMissed_0 : decode cX0_isToBeMissed 0 = .ok (.aload_n 1, 1) := by decide +kernel
theorem dX0_isToBeMissed_1 : decode cX0_isToBeMissed 1 = .ok (.getfield 84, 3) := by decide +kernel
theorem dX0_isToBeMissed_4 : decode cX0_isToBeMissed 4 = .ok (.iload_n 2, 1) := by decide +kernel
theorem dX0_isToBeMissed_5 : decode cX0_isToBeMissed 5 = .ok (.if_icmp .ne 30, 3) := by decide +kernel
theorem dX0_isToBeMissed_8 : decode cX0_isToBeMissed 8 = .ok (.aload_n 1, 1) := by decide +kernel
theorem dX0_isToBeMissed_9 : decode cX0_isToBeMissed 9 = .ok (.getfield 73, 3) := by decide +kernel
theorem dX0_isToBeMissed_12 : decode cX0_isToBeMissed 12 = .ok (.ldc 57, 2) := by decide +kernel
theorem dX0_isToBeMissed_14 : decode cX0_isToBeMissed 14 = .ok (.if_icmp .eq 21, 3) := by decide +kernel
theorem dX0_isToBeMissed_17 : decode cX0_isToBeMissed 17 = .ok (.aload_n 0, 1) := by decide +kernel
theorem dX0_isToBeMissed_18 : decode cX0_isToBeMissed 18 = .ok (.getfield 33, 3) := by decide +kernel
theorem dX0_isToBeMissed_21 : decode cX0_isToBeMissed 21 = .ok (.aload_n 1, 1) := by decide +kernel
theorem dX0_isToBeMissed_22 : decode cX0_isToBeMissed 22 = .ok (.getfield 73, 3) := by decide +kernel
theorem dX0_isToBeMissed_25 : decode cX0_isToBeMissed 25 = .ok (.iaload, 1) := by decide +kernel
theorem dX0_isToBeMissed_26 : decode cX0_isToBeMissed 26 = .ok (.ldc 57, 2) := by decide +kernel
theorem dX0_isToBeMissed_28 : decode cX0_isToBeMissed 28 = .ok (.if_icmp .eq 7, 3) := by decide +kernel
theorem dX0_isToBeMissed_31 : decode cX0_isToBeMissed 31 = .ok (.iconst 1, 1) := by decide +kernel
theorem dX0_isToBeMissed_32 : decode cX0_isToBeMissed 32 = .ok (.goto 4, 3) := by decide +kernel
theorem dX0_isToBeMissed_35 : decode cX0_isToBeMissed 35 = .ok (.iconst 0, 1) := by decide +kernel
theorem dX0_isToBeMissed_36 : decode cX0_isToBeMissed 36 = .ok (.ireturn, 1) := by decide +kernel
theorem dX0_missesOf_0 : decode cX0_missesOf 0 = .ok (.iconst 0, 1) := by decide +kernel
theorem dX0_missesOf_1 : decode cX0_missesOf 1 = .ok (.istore_n 2, 1) := by decide +kernel
theorem dX0_missesOf_2 : decode cX0_missesOf 2 = .ok (.iconst 0, 1) := by decide +kernel
theorem dX0_missesOf_3 : decode cX0_missesOf 3 = .ok (.istore_n 3, 1) := by decide +kernel
theorem dX0_missesOf_4 : decode cX0_missesOf 4 = .ok (.iload_n 3, 1) := by decide +kernel
theorem dX0_missesOf_5 : decode cX0_missesOf 5 = .ok (.aload_n 0, 1) := by decide +kernel
theorem dX0_missesOf_6 : decode cX0_missesOf 6 = .ok (.getfield 36, 3) := by decide +kernel
theorem dX0_missesOf_9 : decode cX0_missesOf 9 = .ok (.if_icmp .ge 54, 3) := by decide +kernel
theorem dX0_missesOf_12 : decode cX0_missesOf 12 = .ok (.aload_n 0, 1) := by decide +kernel
theorem dX0_missesOf_13 : decode cX0_missesOf 13 = .ok (.getfield 11, 3) := by decide +kernel
theorem dX0_missesOf_16 : decode cX0_missesOf 16 = .ok (.iload_n 3, 1) := by decide +kernel
theorem dX0_missesOf_17 : decode cX0_missesOf 17 = .ok (.aaload, 1) := by decide +kernel
theorem dX0_missesOf_18 : decode cX0_missesOf 18 = .ok (.astore 4, 2) := by decide +kernel
theorem dX0_missesOf_20 : decode cX0_missesOf 20 = .ok (.iload_n 2, 1) := by decide +kernel
theorem dX0_missesOf_21 : decode cX0_missesOf 21 = .ok (.aload_n 0, 1) := by decide +kernel
theorem dX0_missesOf_22 : decode cX0_missesOf 22 = .ok (.aload 4, 2) := by decide +kernel
theorem dX0_missesOf_24 : decode cX0_missesOf 24 = .ok (.iload_n 1, 1) := by decide +kernel
theorem dX0_missesOf_25 : decode cX0_missesOf 25 = .ok (.invokevirtual 133, 3) := by decide +kernel
theorem dX0_missesOf_28 : decode cX0_missesOf 28 = .ok (.ifCond .eq 26, 3) := by decide +kernel
theorem dX0_missesOf_31 : decode cX0_missesOf 31 = .ok (.aload_n 0, 1) := by decide +kernel
theorem dX0_missesOf_32 : decode cX0_missesOf 32 = .ok (.aload 4, 2) := by decide +kernel
theorem dX0_missesOf_34 : decode cX0_missesOf 34 = .ok (.invokevirtual 137, 3) := by decide +kernel
theorem dX0_missesOf_37 : decode cX0_missesOf 37 = .ok (.aload_n 0, 1) := by decide +kernel
theorem dX0_missesOf_38 : decode cX0_missesOf 38 = .ok (.getfield 33, 3) := by decide +kernel
theorem dX0_missesOf_41 : decode cX0_missesOf 41 = .ok (.aload 4, 2) := by decide +kernel
theorem dX0_missesOf_43 : decode cX0_missesOf 43 = .ok (.getfield 73, 3) := by decide +kernel
theorem dX0_missesOf_46 : decode cX0_missesOf 46 = .ok (.iaload, 1) := by decide +kernel
theorem dX0_missesOf_47 : decode cX0_missesOf 47 = .ok (.isub, 1) := by decide +kernel
theorem dX0_missesOf_48 : decode cX0_missesOf 48 = .ok (.invokestatic 140, 3) := by decide +kernel
theorem dX0_missesOf_51 : decode cX0_missesOf 51 = .ok (.goto 4, 3) := by decide +kernel
theorem dX0_missesOf_54 : decode cX0_missesOf 54 = .ok (.iconst 0, 1) := by decide +kernel
theorem dX0_missesOf_55 : decode cX0_missesOf 55 = .ok (.iadd, 1) := by decide +kernel
theorem dX0_missesOf_56 : decode cX0_missesOf 56 = .ok (.istore_n 2, 1) := by decide +kernel
theorem dX0_missesOf_57 : decode cX0_missesOf 57 = .ok (.iinc 3 1, 3) := by decide +kernel
theorem dX0_missesOf_60 : decode cX0_missesOf 60 = .ok (.goto (-56), 3) := by decide +kernel
theorem dX0_missesOf_63 : decode cX0_missesOf 63 = .ok (.iload_n 2, 1) := by decide +kernel
theorem dX0_missesOf_64 : decode cX0_missesOf 64 = .ok (.ireturn, 1) := by decide +kernel
theorem dX0_missingMarksOf_0 : decode cX0_missingMarksOf 0 = .ok (.iconst 0, 1) := by decide +kernel
theorem dX0_missingMarksOf_1 : decode cX0_missingMarksOf 1 = .ok (.istore_n 2, 1) := by decide +kernel
theorem dX0_missingMarksOf_2 : decode cX0_missingMarksOf 2 = .ok (.iconst 0, 1) := by decide +kernel
theorem dX0_missingMarksOf_3 : decode cX0_missingMarksOf 3 = .ok (.istore_n 3, 1) := by decide +kernel
theorem dX0_missingMarksOf_4 : decode cX0_missingMarksOf 4 = .ok (.iload_n 3, 1) := by decide +kernel
theorem dX0_missingMarksOf_5 : decode cX0_missingMarksOf 5 = .ok (.aload_n 0, 1) := by decide +kernel
theorem dX0_missingMarksOf_6 : decode cX0_missingMarksOf 6 = .ok (.getfield 36, 3) := by decide +kernel
theorem dX0_missingMarksOf_9 : decode cX0_missingMarksOf 9 = .ok (.if_icmp .ge 31, 3) := by decide +kernel
theorem dX0_missingMarksOf_12 : decode cX0_missingMarksOf 12 = .ok (.iload_n 2, 1) := by decide +kernel
theorem dX0_missingMarksOf_13 : decode cX0_missingMarksOf 13 = .ok (.aload_n 0, 1) := by decide +kernel
theorem dX0_missingMarksOf_14 : decode cX0_missingMarksOf 14 = .ok (.aload_n 0, 1) := by decide +kernel
theorem dX0_missingMarksOf_15 : decode cX0_missingMarksOf 15 = .ok (.getfield 11, 3) := by decide +kernel
theorem dX0_missingMarksOf_18 : decode cX0_missingMarksOf 18 = .ok (.iload_n 3, 1) := by decide +kernel
theorem dX0_missingMarksOf_19 : decode cX0_missingMarksOf 19 = .ok (.aaload, 1) := by decide +kernel
theorem dX0_missingMarksOf_20 : decode cX0_missingMarksOf 20 = .ok (.iload_n 1, 1) := by decide +kernel
theorem dX0_missingMarksOf_21 : decode cX0_missingMarksOf 21 = .ok (.invokevirtual 133, 3) := by decide +kernel
theorem dX0_missingMarksOf_24 : decode cX0_missingMarksOf 24 = .ok (.ifCond .eq 7, 3) := by decide +kernel
theorem dX0_missingMarksOf_27 : decode cX0_missingMarksOf 27 = .ok (.iconst 1, 1) := by decide +kernel
theorem dX0_missingMarksOf_28 : decode cX0_missingMarksOf 28 = .ok (.goto 4, 3) := by decide +kernel
theorem dX0_missingMarksOf_31 : decode cX0_missingMarksOf 31 = .ok (.iconst 0, 1) := by decide +kernel
theorem dX0_missingMarksOf_32 : decode cX0_missingMarksOf 32 = .ok (.iadd, 1) := by decide +kernel
theorem dX0_missingMarksOf_33 : decode cX0_missingMarksOf 33 = .ok (.istore_n 2, 1) := by decide +kernel
theorem dX0_missingMarksOf_34 : decode cX0_missingMarksOf 34 = .ok (.iinc 3 1, 3) := by decide +kernel
theorem dX0_missingMarksOf_37 : decode cX0_missingMarksOf 37 = .ok (.goto (-33), 3) := by decide +kernel
theorem dX0_missingMarksOf_40 : decode cX0_missingMarksOf 40 = .ok (.iload_n 2, 1) := by decide +kernel
theorem dX0_missingMarksOf_41 : decode cX0_missingMarksOf 41 = .ok (.ireturn, 1) := by decide +kernel
theorem dX0_sailsWithin_0 : decode cX0_sailsWithin 0 = .ok (.iconst 1, 1) := by decide +kernel
theorem dX0_sailsWithin_1 : decode cX0_sailsWithin 1 = .ok (.istore_n 3, 1) := by decide +kernel
theorem dX0_sailsWithin_2 : decode cX0_sailsWithin 2 = .ok (.iconst 0, 1) := by decide +kernel
theorem dX0_sailsWithin_3 : decode cX0_sailsWithin 3 = .ok (.istore 4, 2) := by decide +kernel
theorem dX0_sailsWithin_5 : decode cX0_sailsWithin 5 = .ok (.iload 4, 2) := by decide +kernel
theorem dX0_sailsWithin_7 : decode cX0_sailsWithin 7 = .ok (.bipush 9, 2) := by decide +kernel
theorem dX0_sailsWithin_9 : decode cX0_sailsWithin 9 = .ok (.if_icmp .ge 70, 3) := by decide +kernel
theorem dX0_sailsWithin_12 : decode cX0_sailsWithin 12 = .ok (.aload_n 0, 1) := by decide +kernel
theorem dX0_sailsWithin_13 : decode cX0_sailsWithin 13 = .ok (.getfield 33, 3) := by decide +kernel
theorem dX0_sailsWithin_16 : decode cX0_sailsWithin 16 = .ok (.iload 4, 2) := by decide +kernel
theorem dX0_sailsWithin_18 : decode cX0_sailsWithin 18 = .ok (.iaload, 1) := by decide +kernel
theorem dX0_sailsWithin_19 : decode cX0_sailsWithin 19 = .ok (.ldc 57, 2) := by decide +kernel
theorem dX0_sailsWithin_21 : decode cX0_sailsWithin 21 = .ok (.if_icmp .eq 52, 3) := by decide +kernel
theorem dX0_sailsWithin_24 : decode cX0_sailsWithin 24 = .ok (.aload_n 0, 1) := by decide +kernel
theorem dX0_sailsWithin_25 : decode cX0_sailsWithin 25 = .ok (.aload_n 0, 1) := by decide +kernel
theorem dX0_sailsWithin_26 : decode cX0_sailsWithin 26 = .ok (.getfield 46, 3) := by decide +kernel
theorem dX0_sailsWithin_29 : decode cX0_sailsWithin 29 = .ok (.invokestatic 146, 3) := by decide +kernel
theorem dX0_sailsWithin_32 : decode cX0_sailsWithin 32 = .ok (.putfield 46, 3) := by decide +kernel
theorem dX0_sailsWithin_35 : decode cX0_sailsWithin 35 = .ok (.iload_n 3, 1) := by decide +kernel
theorem dX0_sailsWithin_36 : decode cX0_sailsWithin 36 = .ok (.aload_n 0, 1) := by decide +kernel
theorem dX0_sailsWithin_37 : decode cX0_sailsWithin 37 = .ok (.getfield 46, 3) := by decide +kernel
theorem dX0_sailsWithin_40 : decode cX0_sailsWithin 40 = .ok (.aload_n 0, 1) := by decide +kernel
theorem dX0_sailsWithin_41 : decode cX0_sailsWithin 41 = .ok (.getfield 33, 3) := by decide +kernel
theorem dX0_sailsWithin_44 : decode cX0_sailsWithin 44 = .ok (.iload 4, 2) := by decide +kernel
theorem dX0_sailsWithin_46 : decode cX0_sailsWithin 46 = .ok (.iaload, 1) := by decide +kernel
theorem dX0_sailsWithin_47 : decode cX0_sailsWithin 47 = .ok (.iload_n 1, 1) := by decide +kernel
theorem dX0_sailsWithin_48 : decode cX0_sailsWithin 48 = .ok (.invokestatic 149, 3) := by decide +kernel
theorem dX0_sailsWithin_51 : decode cX0_sailsWithin 51 = .ok (.aload_n 0, 1) := by decide +kernel
theorem dX0_sailsWithin_52 : decode cX0_sailsWithin 52 = .ok (.getfield 33, 3) := by decide +kernel
theorem dX0_sailsWithin_55 : decode cX0_sailsWithin 55 = .ok (.iload 4, 2) := by decide +kernel
theorem dX0_sailsWithin_57 : decode cX0_sailsWithin 57 = .ok (.iaload, 1) := by decide +kernel
theorem dX0_sailsWithin_58 : decode cX0_sailsWithin 58 = .ok (.isub, 1) := by decide +kernel
theorem dX0_sailsWithin_59 : decode cX0_sailsWithin 59 = .ok (.invokestatic 140, 3) := by decide +kernel
theorem dX0_sailsWithin_62 : decode cX0_sailsWithin 62 = .ok (.iload_n 2, 1) := by decide +kernel
theorem dX0_sailsWithin_63 : decode cX0_sailsWithin 63 = .ok (.if_icmp .gt 7, 3) := by decide +kernel
theorem dX0_sailsWithin_66 : decode cX0_sailsWithin 66 = .ok (.iconst 1, 1) := by decide +kernel
theorem dX0_sailsWithin_67 : decode cX0_sailsWithin 67 = .ok (.goto 4, 3) := by decide +kernel
theorem dX0_sailsWithin_70 : decode cX0_sailsWithin 70 = .ok (.iconst 0, 1) := by decide +kernel
theorem dX0_sailsWithin_71 : decode cX0_sailsWithin 71 = .ok (.iand, 1) := by decide +kernel
theorem dX0_sailsWithin_72 : decode cX0_sailsWithin 72 = .ok (.istore_n 3, 1) := by decide +kernel
theorem dX0_sailsWithin_73 : decode cX0_sailsWithin 73 = .ok (.iinc 4 1, 3) := by decide +kernel
theorem dX0_sailsWithin_76 : decode cX0_sailsWithin 76 = .ok (.goto (-71), 3) := by decide +kernel
theorem dX0_sailsWithin_79 : decode cX0_sailsWithin 79 = .ok (.iload_n 3, 1) := by decide +kernel
theorem dX0_sailsWithin_80 : decode cX0_sailsWithin 80 = .ok (.ireturn, 1) := by decide +kernel
theorem dX0_rightSights_0 : decode cX0_rightSights 0 = .ok (.iconst 0, 1) := by decide +kernel
theorem dX0_rightSights_1 : decode cX0_rightSights 1 = .ok (.istore 5, 2) := by decide +kernel
theorem dX0_rightSights_3 : decode cX0_rightSights 3 = .ok (.aload_n 0, 1) := by decide +kernel
theorem dX0_rightSights_4 : decode cX0_rightSights 4 = .ok (.getfield 46, 3) := by decide +kernel
theorem dX0_rightSights_7 : decode cX0_rightSights 7 = .ok (.istore 6, 2) := by decide +kernel
theorem dX0_rightSights_9 : decode cX0_rightSights 9 = .ok (.iconst 0, 1) := by decide +kernel
theorem dX0_rightSights_10 : decode cX0_rightSights 10 = .ok (.istore 7, 2) := by decide +kernel
theorem dX0_rightSights_12 : decode cX0_rightSights 12 = .ok (.iload 7, 2) := by decide +kernel
theorem dX0_rightSights_14 : decode cX0_rightSights 14 = .ok (.iload_n 3, 1) := by decide +kernel
theorem dX0_rightSights_15 : decode cX0_rightSights 15 = .ok (.if_icmp .ge 77, 3) := by decide +kernel
theorem dX0_rightSights_18 : decode cX0_rightSights 18 = .ok (.iconst 0, 1) := by decide +kernel
theorem dX0_rightSights_19 : decode cX0_rightSights 19 = .ok (.istore 8, 2) := by decide +kernel
theorem dX0_rightSights_21 : decode cX0_rightSights 21 = .ok (.iload 8, 2) := by decide +kernel
theorem dX0_rightSights_23 : decode cX0_rightSights 23 = .ok (.bipush 9, 2) := by decide +kernel
theorem dX0_rightSights_25 : decode cX0_rightSights 25 = .ok (.if_icmp .ge 61, 3) := by decide +kernel
theorem dX0_rightSights_28 : decode cX0_rightSights 28 = .ok (.aload_n 0, 1) := by decide +kernel
theorem dX0_rightSights_29 : decode cX0_rightSights 29 = .ok (.getfield 33, 3) := by decide +kernel
theorem dX0_rightSights_32 : decode cX0_rightSights 32 = .ok (.iload 8, 2) := by decide +kernel
theorem dX0_rightSights_34 : decode cX0_rightSights 34 = .ok (.iaload, 1) := by decide +kernel
theorem dX0_rightSights_35 : decode cX0_rightSights 35 = .ok (.ldc 57, 2) := by decide +kernel
theorem dX0_rightSights_37 : decode cX0_rightSights 37 = .ok (.if_icmp .eq 43, 3) := by decide +kernel
theorem dX0_rightSights_40 : decode cX0_rightSights 40 = .ok (.iload 6, 2) := by decide +kernel
theorem dX0_rightSights_42 : decode cX0_rightSights 42 = .ok (.invokestatic 146, 3) := by decide +kernel
theorem dX0_rightSights_45 : decode cX0_rightSights 45 = .ok (.istore 6, 2) := by decide +kernel
theorem dX0_rightSights_47 : decode cX0_rightSights 47 = .ok (.iload 5, 2) := by decide +kernel
theorem dX0_rightSights_49 : decode cX0_rightSights 49 = .ok (.iload_n 2, 1) := by decide +kernel
theorem dX0_rightSights_50 : decode cX0_rightSights 50 = .ok (.if_icmp .ge 24, 3) := by decide +kernel
theorem dX0_rightSights_53 : decode cX0_rightSights 53 = .ok (.aload_n 1, 1) := by decide +kernel
theorem dX0_rightSights_54 : decode cX0_rightSights 54 = .ok (.iload 5, 2) := by decide +kernel
theorem dX0_rightSights_56 : decode cX0_rightSights 56 = .ok (.iaload, 1) := by decide +kernel
theorem dX0_rightSights_57 : decode cX0_rightSights 57 = .ok (.iload 6, 2) := by decide +kernel
theorem dX0_rightSights_59 : decode cX0_rightSights 59 = .ok (.aload_n 0, 1) := by decide +kernel
theorem dX0_rightSights_60 : decode cX0_rightSights 60 = .ok (.getfield 33, 3) := by decide +kernel
theorem dX0_rightSights_63 : decode cX0_rightSights 63 = .ok (.iload 8, 2) := by decide +kernel
theorem dX0_rightSights_65 : decode cX0_rightSights 65 = .ok (.iaload, 1) := by decide +kernel
theorem dX0_rightSights_66 : decode cX0_rightSights 66 = .ok (.iload 4, 2) := by decide +kernel
theorem dX0_rightSights_68 : decode cX0_rightSights 68 = .ok (.invokestatic 149, 3) := by decide +kernel
theorem dX0_rightSights_71 : decode cX0_rightSights 71 = .ok (.if_icmp .eq 6, 3) := by decide +kernel
theorem dX0_rightSights_74 : decode cX0_rightSights 74 = .ok (.iload 5, 2) := by decide +kernel
theorem dX0_rightSights_76 : decode cX0_rightSights 76 = .ok (.ireturn, 1) := by decide +kernel
theorem dX0_rightSights_77 : decode cX0_rightSights 77 = .ok (.iinc 5 1, 3) := by decide +kernel
theorem dX0_rightSights_80 : decode cX0_rightSights 80 = .ok (.iinc 8 1, 3) := by decide +kernel
theorem dX0_rightSights_83 : decode cX0_rightSights 83 = .ok (.goto (-62), 3) := by decide +kernel
theorem dX0_rightSights_86 : decode cX0_rightSights 86 = .ok (.iinc 7 1, 3) := by decide +kernel
theorem dX0_rightSights_89 : decode cX0_rightSights 89 = .ok (.goto (-77), 3) := by decide +kernel
theorem dX0_rightSights_92 : decode cX0_rightSights 92 = .ok (.iload 5, 2) := by decide +kernel
theorem dX0_rightSights_94 : decode cX0_rightSights 94 = .ok (.ireturn, 1) := by decide +kernel
theorem dX1_init_0 : decode cX1_init 0 = .ok (.aload_n 0, 1) := by decide +kernel
theorem dX1_init_1 : decode cX1_init 1 = .ok (.invokespecial 1, 3) := by decide +kernel
theorem dX1_init_4 : decode cX1_init 4 = .ok (.return_, 1) := by decide +kernel
theorem dX1_look_0 : decode cX1_look 0 = .ok (.aload_n 0, 1) := by decide +kernel
theorem dX1_look_1 : decode cX1_look 1 = .ok (.iconst 0, 1) := by decide +kernel
theorem dX1_look_2 : decode cX1_look 2 = .ok (.putfield 7, 3) := by decide +kernel
theorem dX1_look_5 : decode cX1_look 5 = .ok (.aload_n 0, 1) := by decide +kernel
theorem dX1_look_6 : decode cX1_look 6 = .ok (.iconst 0, 1) := by decide +kernel
theorem dX1_look_7 : decode cX1_look 7 = .ok (.putfield 13, 3) := by decide +kernel
theorem dX1_look_10 : decode cX1_look 10 = .ok (.aload_n 0, 1) := by decide +kernel
theorem dX1_look_11 : decode cX1_look 11 = .ok (.iconst 0, 1) := by decide +kernel
theorem dX1_look_12 : decode cX1_look 12 = .ok (.putfield 16, 3) := by decide +kernel
theorem dX1_look_15 : decode cX1_look 15 = .ok (.iconst 0, 1) := by decide +kernel
theorem dX1_look_16 : decode cX1_look 16 = .ok (.istore_n 3, 1) := by decide +kernel
theorem dX1_look_17 : decode cX1_look 17 = .ok (.iload_n 3, 1) := by decide +kernel
theorem dX1_look_18 : decode cX1_look 18 = .ok (.aload_n 1, 1) := by decide +kernel
theorem dX1_look_19 : decode cX1_look 19 = .ok (.getfield 19, 3) := by decide +kernel
theorem dX1_look_22 : decode cX1_look 22 = .ok (.if_icmp .ge 38, 3) := by decide +kernel
theorem dX1_look_25 : decode cX1_look 25 = .ok (.aload_n 1, 1) := by decide +kernel
theorem dX1_look_26 : decode cX1_look 26 = .ok (.getfield 24, 3) := by decide +kernel
theorem dX1_look_29 : decode cX1_look 29 = .ok (.iload_n 3, 1) := by decide +kernel
theorem dX1_look_30 : decode cX1_look 30 = .ok (.aaload, 1) := by decide +kernel
theorem dX1_look_31 : decode cX1_look 31 = .ok (.astore 4, 2) := by decide +kernel
theorem dX1_look_33 : decode cX1_look 33 = .ok (.aload 4, 2) := by decide +kernel
theorem dX1_look_35 : decode cX1_look 35 = .ok (.getfield 27, 3) := by decide +kernel
theorem dX1_look_38 : decode cX1_look 38 = .ok (.iload_n 2, 1) := by decide +kernel
theorem dX1_look_39 : decode cX1_look 39 = .ok (.if_icmp .ne 15, 3) := by decide +kernel
theorem dX1_look_42 : decode cX1_look 42 = .ok (.aload_n 0, 1) := by decide +kernel
theorem dX1_look_43 : decode cX1_look 43 = .ok (.aload 4, 2) := by decide +kernel
theorem dX1_look_45 : decode cX1_look 45 = .ok (.aload_n 1, 1) := by decide +kernel
theorem dX1_look_46 : decode cX1_look 46 = .ok (.aload 4, 2) := by decide +kernel
theorem dX1_look_48 : decode cX1_look 48 = .ok (.invokevirtual 32, 3) := by decide +kernel
theorem dX1_look_51 : decode cX1_look 51 = .ok (.invokevirtual 36, 3) := by decide +kernel
theorem dX1_look_54 : decode cX1_look 54 = .ok (.iinc 3 1, 3) := by decide +kernel
theorem dX1_look_57 : decode cX1_look 57 = .ok (.goto (-40), 3) := by decide +kernel
theorem dX1_look_60 : decode cX1_look 60 = .ok (.return_, 1) := by decide +kernel
theorem dX1_narrow_0 : decode cX1_narrow 0 = .ok (.aload_n 1, 1) := by decide +kernel
theorem dX1_narrow_1 : decode cX1_narrow 1 = .ok (.invokevirtual 40, 3) := by decide +kernel
theorem dX1_narrow_4 : decode cX1_narrow 4 = .ok (.istore_n 3, 1) := by decide +kernel
theorem dX1_narrow_5 : decode cX1_narrow 5 = .ok (.aload_n 0, 1) := by decide +kernel
theorem dX1_narrow_6 : decode cX1_narrow 6 = .ok (.aload_n 0, 1) := by decide +kernel
theorem dX1_narrow_7 : decode cX1_narrow 7 = .ok (.getfield 7, 3) := by decide +kernel
theorem dX1_narrow_10 : decode cX1_narrow 10 = .ok (.ifCond .ne 9, 3) := by decide +kernel
theorem dX1_narrow_13 : decode cX1_narrow 13 = .ok (.iload_n 2, 1) := by decide +kernel
theorem dX1_narrow_14 : decode cX1_narrow 14 = .ok (.iload_n 3, 1) := by decide +kernel
theorem dX1_narrow_15 : decode cX1_narrow 15 = .ok (.isub, 1) := by decide +kernel
theorem dX1_narrow_16 : decode cX1_narrow 16 = .ok (.goto 13, 3) := by decide +kernel
theorem dX1_narrow_19 : decode cX1_narrow 19 = .ok (.aload_n 0, 1) := by decide +kernel
theorem dX1_narrow_20 : decode cX1_narrow 20 = .ok (.getfield 44, 3) := by decide +kernel
theorem dX1_narrow_23 : decode cX1_narrow 23 = .ok (.iload_n 2, 1) := by decide +kernel
theorem dX1_narrow_24 : decode cX1_narrow 24 = .ok (.iload_n 3, 1) := by decide +kernel
theorem dX1_narrow_25 : decode cX1_narrow 25 = .ok (.isub, 1) := by decide +kernel
theorem dX1_narrow_26 : decode cX1_narrow 26 = .ok (.invokestatic 47, 3) := by decide +kernel
theorem dX1_narrow_29 : decode cX1_narrow 29 = .ok (.putfield 44, 3) := by decide +kernel
theorem dX1_narrow_32 : decode cX1_narrow 32 = .ok (.aload_n 0, 1) := by decide +kernel
theorem dX1_narrow_33 : decode cX1_narrow 33 = .ok (.aload_n 0, 1) := by decide +kernel
theorem dX1_narrow_34 : decode cX1_narrow 34 = .ok (.getfield 7, 3) := by decide +kernel
theorem dX1_narrow_37 : decode cX1_narrow 37 = .ok (.ifCond .ne 9, 3) := by decide +kernel
theorem dX1_narrow_40 : decode cX1_narrow 40 = .ok (.iload_n 2, 1) := by decide +kernel
theorem dX1_narrow_41 : decode cX1_narrow 41 = .ok (.iload_n 3, 1) := by decide +kernel
theorem dX1_narrow_42 : decode cX1_narrow 42 = .ok (.iadd, 1) := by decide +kernel
theorem dX1_narrow_43 : decode cX1_narrow 43 = .ok (.goto 13, 3) := by decide +kernel
theorem dX1_narrow_46 : decode cX1_narrow 46 = .ok (.aload_n 0, 1) := by decide +kernel
theorem dX1_narrow_47 : decode cX1_narrow 47 = .ok (.getfield 53, 3) := by decide +kernel
theorem dX1_narrow_50 : decode cX1_narrow 50 = .ok (.iload_n 2, 1) := by decide +kernel
theorem dX1_narrow_51 : decode cX1_narrow 51 = .ok (.iload_n 3, 1) := by decide +kernel
theorem dX1_narrow_52 : decode cX1_narrow 52 = .ok (.iadd, 1) := by decide +kernel
theorem dX1_narrow_53 : decode cX1_narrow 53 = .ok (.invokestatic 56, 3) := by decide +kernel
theorem dX1_narrow_56 : decode cX1_narrow 56 = .ok (.putfield 53, 3) := by decide +kernel
theorem dX1_narrow_59 : decode cX1_narrow 59 = .ok (.aload_n 0, 1) := by decide +kernel
theorem dX1_narrow_60 : decode cX1_narrow 60 = .ok (.dup, 1) := by decide +kernel
theorem dX1_narrow_61 : decode cX1_narrow 61 = .ok (.getfield 7, 3) := by decide +kernel
theorem dX1_narrow_64 : decode cX1_narrow 64 = .ok (.iconst 1, 1) := by decide +kernel
theorem dX1_narrow_65 : decode cX1_narrow 65 = .ok (.iadd, 1) := by decide +kernel
theorem dX1_narrow_66 : decode cX1_narrow 66 = .ok (.putfield 7, 3) := by decide +kernel
theorem dX1_narrow_69 : decode cX1_narrow 69 = .ok (.aload_n 0, 1) := by decide +kernel
theorem dX1_narrow_70 : decode cX1_narrow 70 = .ok (.dup, 1) := by decide +kernel
theorem dX1_narrow_71 : decode cX1_narrow 71 = .ok (.getfield 13, 3) := by decide +kernel
theorem dX1_narrow_74 : decode cX1_narrow 74 = .ok (.aload_n 1, 1) := by decide +kernel
theorem dX1_narrow_75 : decode cX1_narrow 75 = .ok (.getfield 59, 3) := by decide +kernel
theorem dX1_narrow_78 : decode cX1_narrow 78 = .ok (.invokestatic 62, 3) := by decide +kernel
theorem dX1_narrow_81 : decode cX1_narrow 81 = .ok (.iadd, 1) := by decide +kernel
theorem dX1_narrow_82 : decode cX1_narrow 82 = .ok (.putfield 13, 3) := by decide +kernel
theorem dX1_narrow_85 : decode cX1_narrow 85 = .ok (.aload_n 0, 1) := by decide +kernel
theorem dX1_narrow_86 : decode cX1_narrow 86 = .ok (.dup, 1) := by decide +kernel
theorem dX1_narrow_87 : decode cX1_narrow 87 = .ok (.getfield 16, 3) := by decide +kernel
theorem dX1_narrow_90 : decode cX1_narrow 90 = .ok (.iconst 1, 1) := by decide +kernel
theorem dX1_narrow_91 : decode cX1_narrow 91 = .ok (.aload_n 1, 1) := by decide +kernel
theorem dX1_narrow_92 : decode cX1_narrow 92 = .ok (.getfield 68, 3) := by decide +kernel
theorem dX1_narrow_95 : decode cX1_narrow 95 = .ok (.ishl, 1) := by decide +kernel
theorem dX1_narrow_96 : decode cX1_narrow 96 = .ok (.ior, 1) := by decide +kernel
theorem dX1_narrow_97 : decode cX1_narrow 97 = .ok (.putfield 16, 3) := by decide +kernel
theorem dX1_narrow_100 : decode cX1_narrow 100 = .ok (.return_, 1) := by decide +kernel
theorem dX1_areSeen_0 : decode cX1_areSeen 0 = .ok (.aload_n 0, 1) := by decide +kernel
theorem dX1_areSeen_1 : decode cX1_areSeen 1 = .ok (.getfield 7, 3) := by decide +kernel
theorem dX1_areSeen_4 : decode cX1_areSeen 4 = .ok (.ifCond .le 7, 3) := by decide +kernel
theorem dX1_areSeen_7 : decode cX1_areSeen 7 = .ok (.iconst 1, 1) := by decide +kernel
theorem dX1_areSeen_8 : decode cX1_areSeen 8 = .ok (.goto 4, 3) := by decide +kernel
theorem dX1_areSeen_11 : decode cX1_areSeen 11 = .ok (.iconst 0, 1) := by decide +kernel
theorem dX1_areSeen_12 : decode cX1_areSeen 12 = .ok (.ireturn, 1) := by decide +kernel
theorem dX1_hold_0 : decode cX1_hold 0 = .ok (.aload_n 0, 1) := by decide +kernel
theorem dX1_hold_1 : decode cX1_hold 1 = .ok (.getfield 7, 3) := by decide +kernel
theorem dX1_hold_4 : decode cX1_hold 4 = .ok (.ifCond .le 18, 3) := by decide +kernel
theorem dX1_hold_7 : decode cX1_hold 7 = .ok (.aload_n 0, 1) := by decide +kernel
theorem dX1_hold_8 : decode cX1_hold 8 = .ok (.getfield 44, 3) := by decide +kernel
theorem dX1_hold_11 : decode cX1_hold 11 = .ok (.aload_n 0, 1) := by decide +kernel
theorem dX1_hold_12 : decode cX1_hold 12 = .ok (.getfield 53, 3) := by decide +kernel
theorem dX1_hold_15 : decode cX1_hold 15 = .ok (.if_icmp .gt 7, 3) := by decide +kernel
theorem dX1_hold_18 : decode cX1_hold 18 = .ok (.iconst 1, 1) := by decide +kernel
theorem dX1_hold_19 : decode cX1_hold 19 = .ok (.goto 4, 3) := by decide +kernel
theorem dX1_hold_22 : decode cX1_hold 22 = .ok (.iconst 0, 1) := by decide +kernel
theorem dX1_hold_23 : decode cX1_hold 23 = .ok (.ireturn, 1) := by decide +kernel
theorem dX1_width_0 : decode cX1_width 0 = .ok (.aload_n 0, 1) := by decide +kernel
theorem dX1_width_1 : decode cX1_width 1 = .ok (.getfield 53, 3) := by decide +kernel
theorem dX1_width_4 : decode cX1_width 4 = .ok (.aload_n 0, 1) := by decide +kernel
theorem dX1_width_5 : decode cX1_width 5 = .ok (.getfield 44, 3) := by decide +kernel
theorem dX1_width_8 : decode cX1_width 8 = .ok (.isub, 1) := by decide +kernel
theorem dX1_width_9 : decode cX1_width 9 = .ok (.ireturn, 1) := by decide +kernel
theorem dX1_standOnOne_0 : decode cX1_standOnOne 0 = .ok (.aload_n 0, 1) := by decide +kernel
theorem dX1_standOnOne_1 : decode cX1_standOnOne 1 = .ok (.getfield 16, 3) := by decide +kernel
theorem dX1_standOnOne_4 : decode cX1_standOnOne 4 = .ok (.invokestatic 71, 3) := by decide +kernel
theorem dX1_standOnOne_7 : decode cX1_standOnOne 7 = .ok (.iconst 1, 1) := by decide +kernel
theorem dX1_standOnOne_8 : decode cX1_standOnOne 8 = .ok (.if_icmp .ne 7, 3) := by decide +kernel
theorem dX1_standOnOne_11 : decode cX1_standOnOne 11 = .ok (.iconst 1, 1) := by decide +kernel
theorem dX1_standOnOne_12 : decode cX1_standOnOne 12 = .ok (.goto 4, 3) := by decide +kernel
theorem dX1_standOnOne_15 : decode cX1_standOnOne 15 = .ok (.iconst 0, 1) := by decide +kernel
theorem dX1_standOnOne_16 : decode cX1_standOnOne 16 = .ok (.ireturn, 1) := by decide +kernel
theorem dX2_init_0 : decode cX2_init 0 = .ok (.aload_n 0, 1) := by decide +kernel
theorem dX2_init_1 : decode cX2_init 1 = .ok (.invokespecial 3, 3) := by decide +kernel
theorem dX2_init_4 : decode cX2_init 4 = .ok (.return_, 1) := by decide +kernel
theorem dX2_become_0 : decode cX2_become 0 = .ok (.aload_n 0, 1) := by decide +kernel
theorem dX2_become_1 : decode cX2_become 1 = .ok (.iload_n 1, 1) := by decide +kernel
theorem dX2_become_2 : decode cX2_become 2 = .ok (.putfield 9, 3) := by decide +kernel
theorem dX2_become_5 : decode cX2_become 5 = .ok (.aload_n 0, 1) := by decide +kernel
theorem dX2_become_6 : decode cX2_become 6 = .ok (.iload_n 2, 1) := by decide +kernel
theorem dX2_become_7 : decode cX2_become 7 = .ok (.bipush 100, 2) := by decide +kernel
theorem dX2_become_9 : decode cX2_become 9 = .ok (.idiv, 1) := by decide +kernel
theorem dX2_become_10 : decode cX2_become 10 = .ok (.putfield 15, 3) := by decide +kernel
theorem dX2_become_13 : decode cX2_become 13 = .ok (.aload_n 0, 1) := by decide +kernel
theorem dX2_become_14 : decode cX2_become 14 = .ok (.iload_n 2, 1) := by decide +kernel
theorem dX2_become_15 : decode cX2_become 15 = .ok (.bipush 100, 2) := by decide +kernel
theorem dX2_become_17 : decode cX2_become 17 = .ok (.irem, 1) := by decide +kernel
theorem dX2_become_18 : decode cX2_become 18 = .ok (.putfield 18, 3) := by decide +kernel
theorem dX2_become_21 : decode cX2_become 21 = .ok (.aload_n 0, 1) := by decide +kernel
theorem dX2_become_22 : decode cX2_become 22 = .ok (.iload_n 3, 1) := by decide +kernel
theorem dX2_become_23 : decode cX2_become 23 = .ok (.putfield 21, 3) := by decide +kernel
theorem dX2_become_26 : decode cX2_become 26 = .ok (.aload_n 0, 1) := by decide +kernel
theorem dX2_become_27 : decode cX2_become 27 = .ok (.iload 4, 2) := by decide +kernel
theorem dX2_become_29 : decode cX2_become 29 = .ok (.putfield 24, 3) := by decide +kernel
theorem dX2_become_32 : decode cX2_become 32 = .ok (.aload_n 0, 1) := by decide +kernel
theorem dX2_become_33 : decode cX2_become 33 = .ok (.ldc 27, 2) := by decide +kernel
theorem dX2_become_35 : decode cX2_become 35 = .ok (.putfield 28, 3) := by decide +kernel
theorem dX2_become_38 : decode cX2_become 38 = .ok (.aload_n 0, 1) := by decide +kernel
theorem dX2_become_39 : decode cX2_become 39 = .ok (.ldc 27, 2) := by decide +kernel
theorem dX2_become_41 : decode cX2_become 41 = .ok (.putfield 31, 3) := by decide +kernel
theorem dX2_become_44 : decode cX2_become 44 = .ok (.return_, 1) := by decide +kernel
theorem dX2_takeFrom_0 : decode cX2_takeFrom 0 = .ok (.aload_n 0, 1) := by decide +kernel
theorem dX2_takeFrom_1 : decode cX2_takeFrom 1 = .ok (.aload_n 1, 1) := by decide +kernel
theorem dX2_takeFrom_2 : decode cX2_takeFrom 2 = .ok (.getfield 9, 3) := by decide +kernel
theorem dX2_takeFrom_5 : decode cX2_takeFrom 5 = .ok (.putfield 9, 3) := by decide +kernel
theorem dX2_takeFrom_8 : decode cX2_takeFrom 8 = .ok (.aload_n 0, 1) := by decide +kernel
theorem dX2_takeFrom_9 : decode cX2_takeFrom 9 = .ok (.aload_n 1, 1) := by decide +kernel
theorem dX2_takeFrom_10 : decode cX2_takeFrom 10 = .ok (.getfield 15, 3) := by decide +kernel
theorem dX2_takeFrom_13 : decode cX2_takeFrom 13 = .ok (.putfield 15, 3) := by decide +kernel
theorem dX2_takeFrom_16 : decode cX2_takeFrom 16 = .ok (.aload_n 0, 1) := by decide +kernel
theorem dX2_takeFrom_17 : decode cX2_takeFrom 17 = .ok (.aload_n 1, 1) := by decide +kernel
theorem dX2_takeFrom_18 : decode cX2_takeFrom 18 = .ok (.getfield 18, 3) := by decide +kernel
theorem dX2_takeFrom_21 : decode cX2_takeFrom 21 = .ok (.putfield 18, 3) := by decide +kernel
theorem dX2_takeFrom_24 : decode cX2_takeFrom 24 = .ok (.aload_n 0, 1) := by decide +kernel
theorem dX2_takeFrom_25 : decode cX2_takeFrom 25 = .ok (.aload_n 1, 1) := by decide +kernel
theorem dX2_takeFrom_26 : decode cX2_takeFrom 26 = .ok (.getfield 21, 3) := by decide +kernel
theorem dX2_takeFrom_29 : decode cX2_takeFrom 29 = .ok (.putfield 21, 3) := by decide +kernel
theorem dX2_takeFrom_32 : decode cX2_takeFrom 32 = .ok (.aload_n 0, 1) := by decide +kernel
theorem dX2_takeFrom_33 : decode cX2_takeFrom 33 = .ok (.aload_n 1, 1) := by decide +kernel
theorem dX2_takeFrom_34 : decode cX2_takeFrom 34 = .ok (.getfield 24, 3) := by decide +kernel
theorem dX2_takeFrom_37 : decode cX2_takeFrom 37 = .ok (.putfield 24, 3) := by decide +kernel
theorem dX2_takeFrom_40 : decode cX2_takeFrom 40 = .ok (.aload_n 0, 1) := by decide +kernel
theorem dX2_takeFrom_41 : decode cX2_takeFrom 41 = .ok (.aload_n 1, 1) := by decide +kernel
theorem dX2_takeFrom_42 : decode cX2_takeFrom 42 = .ok (.getfield 28, 3) := by decide +kernel
theorem dX2_takeFrom_45 : decode cX2_takeFrom 45 = .ok (.putfield 28, 3) := by decide +kernel
theorem dX2_takeFrom_48 : decode cX2_takeFrom 48 = .ok (.aload_n 0, 1) := by decide +kernel
theorem dX2_takeFrom_49 : decode cX2_takeFrom 49 = .ok (.aload_n 1, 1) := by decide +kernel
theorem dX2_takeFrom_50 : decode cX2_takeFrom 50 = .ok (.getfield 31, 3) := by decide +kernel
theorem dX2_takeFrom_53 : decode cX2_takeFrom 53 = .ok (.putfield 31, 3) := by decide +kernel
theorem dX2_takeFrom_56 : decode cX2_takeFrom 56 = .ok (.return_, 1) := by decide +kernel
theorem dX2_span_0 : decode cX2_span 0 = .ok (.bipush 20, 2) := by decide +kernel
theorem dX2_span_2 : decode cX2_span 2 = .ok (.istore_n 1, 1) := by decide +kernel
theorem dX2_span_3 : decode cX2_span 3 = .ok (.iload_n 1, 1) := by decide +kernel
theorem dX2_span_4 : decode cX2_span 4 = .ok (.iconst 5, 1) := by decide +kernel
theorem dX2_span_5 : decode cX2_span 5 = .ok (.iadd, 1) := by decide +kernel
theorem dX2_span_6 : decode cX2_span 6 = .ok (.istore_n 2, 1) := by decide +kernel
theorem dX2_span_7 : decode cX2_span 7 = .ok (.aload_n 0, 1) := by decide +kernel
theorem dX2_span_8 : decode cX2_span 8 = .ok (.getfield 9, 3) := by decide +kernel
theorem dX2_span_11 : decode cX2_span 11 = .ok (.tableswitch 75 1 7 #[41, 53, 56, 66, 68, 75, 73], 41) := by decide +kernel
theorem dX2_span_52 : decode cX2_span 52 = .ok (.iload_n 1, 1) := by decide +kernel
theorem dX2_span_53 : decode cX2_span 53 = .ok (.iconst 2, 1) := by decide +kernel
theorem dX2_span_54 : decode cX2_span 54 = .ok (.idiv, 1) := by decide +kernel
theorem dX2_span_55 : decode cX2_span 55 = .ok (.aload_n 0, 1) := by decide +kernel
theorem dX2_span_56 : decode cX2_span 56 = .ok (.getfield 21, 3) := by decide +kernel
theorem dX2_span_59 : decode cX2_span 59 = .ok (.bipush 20, 2) := by decide +kernel
theorem dX2_span_61 : decode cX2_span 61 = .ok (.idiv, 1) := by decide +kernel
theorem dX2_span_62 : decode cX2_span 62 = .ok (.iadd, 1) := by decide +kernel
theorem dX2_span_63 : decode cX2_span 63 = .ok (.ireturn, 1) := by decide +kernel
theorem dX2_span_64 : decode cX2_span 64 = .ok (.bipush 15, 2) := by decide +kernel
theorem dX2_span_66 : decode cX2_span 66 = .ok (.ireturn, 1) := by decide +kernel
theorem dX2_span_67 : decode cX2_span 67 = .ok (.iconst 5, 1) := by decide +kernel
theorem dX2_span_68 : decode cX2_span 68 = .ok (.aload_n 0, 1) := by decide +kernel
theorem dX2_span_69 : decode cX2_span 69 = .ok (.getfield 18, 3) := by decide +kernel
theorem dX2_span_72 : decode cX2_span 72 = .ok (.bipush 10, 2) := by decide +kernel
theorem dX2_span_74 : decode cX2_span 74 = .ok (.idiv, 1) := by decide +kernel
theorem dX2_span_75 : decode cX2_span 75 = .ok (.iadd, 1) := by decide +kernel
theorem dX2_span_76 : decode cX2_span 76 = .ok (.ireturn, 1) := by decide +kernel
theorem dX2_span_77 : decode cX2_span 77 = .ok (.iload_n 2, 1) := by decide +kernel
theorem dX2_span_78 : decode cX2_span 78 = .ok (.ireturn, 1) := by decide +kernel
theorem dX2_span_79 : decode cX2_span 79 = .ok (.iload_n 2, 1) := by decide +kernel
theorem dX2_span_80 : decode cX2_span 80 = .ok (.bipush 10, 2) := by decide +kernel
theorem dX2_span_82 : decode cX2_span 82 = .ok (.iadd, 1) := by decide +kernel
theorem dX2_span_83 : decode cX2_span 83 = .ok (.ireturn, 1) := by decide +kernel
theorem dX2_span_84 : decode cX2_span 84 = .ok (.iconst 2, 1) := by decide +kernel
theorem dX2_span_85 : decode cX2_span 85 = .ok (.ireturn, 1) := by decide +kernel
theorem dX2_span_86 : decode cX2_span 86 = .ok (.iload_n 1, 1) := by decide +kernel
theorem dX2_span_87 : decode cX2_span 87 = .ok (.ireturn, 1) := by decide +kernel
theorem dX3_init_0 : decode cX3_init 0 = .ok (.aload_n 0, 1) := by decide +kernel
theorem dX3_init_1 : decode cX3_init 1 = .ok (.invokespecial 3, 3) := by decide +kernel
theorem dX3_init_4 : decode cX3_init 4 = .ok (.aload_n 0, 1) := by decide +kernel
theorem dX3_init_5 : decode cX3_init 5 = .ok (.iconst 5, 1) := by decide +kernel
theorem dX3_init_6 : decode cX3_init 6 = .ok (.newarray .int, 2) := by decide +kernel
theorem dX3_init_8 : decode cX3_init 8 = .ok (.putfield 9, 3) := by decide +kernel
theorem dX3_init_11 : decode cX3_init 11 = .ok (.aload_n 0, 1) := by decide +kernel
theorem dX3_init_12 : decode cX3_init 12 = .ok (.bipush 25, 2) := by decide +kernel
theorem dX3_init_14 : decode cX3_init 14 = .ok (.newarray .int, 2) := by decide +kernel
theorem dX3_init_16 : decode cX3_init 16 = .ok (.putfield 15, 3) := by decide +kernel
theorem dX3_init_19 : decode cX3_init 19 = .ok (.aload_n 0, 1) := by decide +kernel
theorem dX3_init_20 : decode cX3_init 20 = .ok (.iconst 5, 1) := by decide +kernel
theorem dX3_init_21 : decode cX3_init 21 = .ok (.newarray .int, 2) := by decide +kernel
theorem dX3_init_23 : decode cX3_init 23 = .ok (.putfield 18, 3) := by decide +kernel
theorem dX3_init_26 : decode cX3_init 26 = .ok (.return_, 1) := by decide +kernel
theorem dX3_find_0 : decode cX3_find 0 = .ok (.aload_n 0, 1) := by decide +kernel
theorem dX3_find_1 : decode cX3_find 1 = .ok (.aload_n 1, 1) := by decide +kernel
theorem dX3_find_2 : decode cX3_find 2 = .ok (.getfield 21, 3) := by decide +kernel
theorem dX3_find_5 : decode cX3_find 5 = .ok (.iload_n 2, 1) := by decide +kernel
theorem dX3_find_6 : decode cX3_find 6 = .ok (.iaload, 1) := by decide +kernel
theorem dX3_find_7 : decode cX3_find 7 = .ok (.putfield 26, 3) := by decide +kernel
theorem dX3_find_10 : decode cX3_find 10 = .ok (.aload_n 0, 1) := by decide +kernel
theorem dX3_find_11 : decode cX3_find 11 = .ok (.aload_n 1, 1) := by decide +kernel
theorem dX3_find_12 : decode cX3_find 12 = .ok (.getfield 21, 3) := by decide +kernel
theorem dX3_find_15 : decode cX3_find 15 = .ok (.iload_n 3, 1) := by decide +kernel
theorem dX3_find_16 : decode cX3_find 16 = .ok (.iaload, 1) := by decide +kernel
theorem dX3_find_17 : decode cX3_find 17 = .ok (.putfield 30, 3) := by decide +kernel
theorem dX3_find_20 : decode cX3_find 20 = .ok (.iconst 0, 1) := by decide +kernel
theorem dX3_find_21 : decode cX3_find 21 = .ok (.istore 4, 2) := by decide +kernel
theorem dX3_find_23 : decode cX3_find 23 = .ok (.iload 4, 2) := by decide +kernel
theorem dX3_find_25 : decode cX3_find 25 = .ok (.aload_n 0, 1) := by decide +kernel
theorem dX3_find_26 : decode cX3_find 26 = .ok (.getfield 26, 3) := by decide +kernel
theorem dX3_find_29 : decode cX3_find 29 = .ok (.if_icmp .ge 102, 3) := by decide +kernel
theorem dX3_find_32 : decode cX3_find 32 = .ok (.aload_n 1, 1) := by decide +kernel
theorem dX3_find_33 : decode cX3_find 33 = .ok (.iload_n 2, 1) := by decide +kernel
theorem dX3_find_34 : decode cX3_find 34 = .ok (.iload 4, 2) := by decide +kernel
theorem dX3_find_36 : decode cX3_find 36 = .ok (.invokevirtual 33, 3) := by decide +kernel
theorem dX3_find_39 : decode cX3_find 39 = .ok (.astore 5, 2) := by decide +kernel
theorem dX3_find_41 : decode cX3_find 41 = .ok (.aload_n 1, 1) := by decide +kernel
theorem dX3_find_42 : decode cX3_find 42 = .ok (.aload 5, 2) := by decide +kernel
theorem dX3_find_44 : decode cX3_find 44 = .ok (.invokevirtual 37, 3) := by decide +kernel
theorem dX3_find_47 : decode cX3_find 47 = .ok (.istore 6, 2) := by decide +kernel
theorem dX3_find_49 : decode cX3_find 49 = .ok (.iconst 0, 1) := by decide +kernel
theorem dX3_find_50 : decode cX3_find 50 = .ok (.istore 7, 2) := by decide +kernel
theorem dX3_find_52 : decode cX3_find 52 = .ok (.iload 7, 2) := by decide +kernel
theorem dX3_find_54 : decode cX3_find 54 = .ok (.aload_n 0, 1) := by decide +kernel
theorem dX3_find_55 : decode cX3_find 55 = .ok (.getfield 30, 3) := by decide +kernel
theorem dX3_find_58 : decode cX3_find 58 = .ok (.if_icmp .ge 67, 3) := by decide +kernel
theorem dX3_find_61 : decode cX3_find 61 = .ok (.aload_n 1, 1) := by decide +kernel
theorem dX3_find_62 : decode cX3_find 62 = .ok (.iload_n 3, 1) := by decide +kernel
theorem dX3_find_63 : decode cX3_find 63 = .ok (.iload 7, 2) := by decide +kernel
theorem dX3_find_65 : decode cX3_find 65 = .ok (.invokevirtual 33, 3) := by decide +kernel
theorem dX3_find_68 : decode cX3_find 68 = .ok (.astore 8, 2) := by decide +kernel
theorem dX3_find_70 : decode cX3_find 70 = .ok (.iload 6, 2) := by decide +kernel
theorem dX3_find_72 : decode cX3_find 72 = .ok (.aload_n 1, 1) := by decide +kernel
theorem dX3_find_73 : decode cX3_find 73 = .ok (.aload 8, 2) := by decide +kernel
theorem dX3_find_75 : decode cX3_find 75 = .ok (.invokevirtual 37, 3) := by decide +kernel
theorem dX3_find_78 : decode cX3_find 78 = .ok (.isub, 1) := by decide +kernel
theorem dX3_find_79 : decode cX3_find 79 = .ok (.invokestatic 41, 3) := by decide +kernel
theorem dX3_find_82 : decode cX3_find 82 = .ok (.istore 9, 2) := by decide +kernel
theorem dX3_find_84 : decode cX3_find 84 = .ok (.aload_n 0, 1) := by decide +kernel
theorem dX3_find_85 : decode cX3_find 85 = .ok (.getfield 15, 3) := by decide +kernel
theorem dX3_find_88 : decode cX3_find 88 = .ok (.iload 4, 2) := by decide +kernel
theorem dX3_find_90 : decode cX3_find 90 = .ok (.iconst 5, 1) := by decide +kernel
theorem dX3_find_91 : decode cX3_find 91 = .ok (.imul, 1) := by decide +kernel
theorem dX3_find_92 : decode cX3_find 92 = .ok (.iload 7, 2) := by decide +kernel
theorem dX3_find_94 : decode cX3_find 94 = .ok (.iadd, 1) := by decide +kernel
theorem dX3_find_95 : decode cX3_find 95 = .ok (.iload 9, 2) := by decide +kernel
theorem dX3_find_97 : decode cX3_find 97 = .ok (.aload 5, 2) := by decide +kernel
theorem dX3_find_99 : decode cX3_find 99 = .ok (.invokevirtual 47, 3) := by decide +kernel
theorem dX3_find_102 : decode cX3_find 102 = .ok (.aload 8, 2) := by decide +kernel
theorem dX3_find_104 : decode cX3_find 104 = .ok (.invokevirtual 47, 3) := by decide +kernel
theorem dX3_find_107 : decode cX3_find 107 = .ok (.iadd, 1) := by decide +kernel
theorem dX3_find_108 : decode cX3_find 108 = .ok (.if_icmp .gt 8, 3) := by decide +kernel
theorem dX3_find_111 : decode cX3_find 111 = .ok (.iload 9, 2) := by decide +kernel
theorem dX3_find_113 : decode cX3_find 113 = .ok (.goto 5, 3) := by decide +kernel
theorem dX3_find_116 : decode cX3_find 116 = .ok (.ldc 53, 2) := by decide +kernel
theorem dX3_find_118 : decode cX3_find 118 = .ok (.iastore, 1) := by decide +kernel
theorem dX3_find_119 : decode cX3_find 119 = .ok (.iinc 7 1, 3) := by decide +kernel
theorem dX3_find_122 : decode cX3_find 122 = .ok (.goto (-70), 3) := by decide +kernel
theorem dX3_find_125 : decode cX3_find 125 = .ok (.iinc 4 1, 3) := by decide +kernel
theorem dX3_find_128 : decode cX3_find 128 = .ok (.goto (-105), 3) := by decide +kernel
theorem dX3_find_131 : decode cX3_find 131 = .ok (.aload_n 0, 1) := by decide +kernel
theorem dX3_find_132 : decode cX3_find 132 = .ok (.iconst (-1), 1) := by decide +kernel
theorem dX3_find_133 : decode cX3_find 133 = .ok (.putfield 54, 3) := by decide +kernel
theorem dX3_find_136 : decode cX3_find 136 = .ok (.aload_n 0, 1) := by decide +kernel
theorem dX3_find_137 : decode cX3_find 137 = .ok (.iconst 0, 1) := by decide +kernel
theorem dX3_find_138 : decode cX3_find 138 = .ok (.putfield 57, 3) := by decide +kernel
theorem dX3_find_141 : decode cX3_find 141 = .ok (.aload_n 0, 1) := by decide +kernel
theorem dX3_find_142 : decode cX3_find 142 = .ok (.iconst 0, 1) := by decide +kernel
theorem dX3_find_143 : decode cX3_find 143 = .ok (.iconst 0, 1) := by decide +kernel
theorem dX3_find_144 : decode cX3_find 144 = .ok (.iconst 0, 1) := by decide +kernel
theorem dX3_find_145 : decode cX3_find 145 = .ok (.iconst 0, 1) := by decide +kernel
theorem dX3_find_146 : decode cX3_find 146 = .ok (.invokevirtual 60, 3) := by decide +kernel
theorem dX3_find_149 : decode cX3_find 149 = .ok (.iconst 0, 1) := by decide +kernel
theorem dX3_find_150 : decode cX3_find 150 = .ok (.istore 4, 2) := by decide +kernel
theorem dX3_find_152 : decode cX3_find 152 = .ok (.iload 4, 2) := by decide +kernel
theorem dX3_find_154 : decode cX3_find 154 = .ok (.aload_n 0, 1) := by decide +kernel
theorem dX3_find_155 : decode cX3_find 155 = .ok (.getfield 26, 3) := by decide +kernel
theorem dX3_find_158 : decode cX3_find 158 = .ok (.if_icmp .ge 49, 3) := by decide +kernel
theorem dX3_find_161 : decode cX3_find 161 = .ok (.aload_n 0, 1) := by decide +kernel
theorem dX3_find_162 : decode cX3_find 162 = .ok (.getfield 9, 3) := by decide +kernel
theorem dX3_find_165 : decode cX3_find 165 = .ok (.iload 4, 2) := by decide +kernel
theorem dX3_find_167 : decode cX3_find 167 = .ok (.aload_n 0, 1) := by decide +kernel
theorem dX3_find_168 : decode cX3_find 168 = .ok (.getfield 9, 3) := by decide +kernel
theorem dX3_find_171 : decode cX3_find 171 = .ok (.iload 4, 2) := by decide +kernel
theorem dX3_find_173 : decode cX3_find 173 = .ok (.iaload, 1) := by decide +kernel
theorem dX3_find_174 : decode cX3_find 174 = .ok (.ldc 53, 2) := by decide +kernel
theorem dX3_find_176 : decode cX3_find 176 = .ok (.if_icmp .ne 8, 3) := by decide +kernel
theorem dX3_find_179 : decode cX3_find 179 = .ok (.ldc 53, 2) := by decide +kernel
theorem dX3_find_181 : decode cX3_find 181 = .ok (.goto 19, 3) := by decide +kernel
theorem dX3_find_184 : decode cX3_find 184 = .ok (.aload_n 1, 1) := by decide +kernel
theorem dX3_find_185 : decode cX3_find 185 = .ok (.getfield 64, 3) := by decide +kernel
theorem dX3_find_188 : decode cX3_find 188 = .ok (.iload_n 3, 1) := by decide +kernel
theorem dX3_find_189 : decode cX3_find 189 = .ok (.iconst 5, 1) := by decide +kernel
theorem dX3_find_190 : decode cX3_find 190 = .ok (.imul, 1) := by decide +kernel
theorem dX3_find_191 : decode cX3_find 191 = .ok (.aload_n 0, 1) := by decide +kernel
theorem dX3_find_192 : decode cX3_find 192 = .ok (.getfield 9, 3) := by decide +kernel
theorem dX3_find_195 : decode cX3_find 195 = .ok (.iload 4, 2) := by decide +kernel
theorem dX3_find_197 : decode cX3_find 197 = .ok (.iaload, 1) := by decide +kernel
theorem dX3_find_198 : decode cX3_find 198 = .ok (.iadd, 1) := by decide +kernel
theorem dX3_find_199 : decode cX3_find 199 = .ok (.iaload, 1) := by decide +kernel
theorem dX3_find_200 : decode cX3_find 200 = .ok (.iastore, 1) := by decide +kernel
theorem dX3_find_201 : decode cX3_find 201 = .ok (.iinc 4 1, 3) := by decide +kernel
theorem dX3_find_204 : decode cX3_find 204 = .ok (.goto (-52), 3) := by decide +kernel
theorem dX3_find_207 : decode cX3_find 207 = .ok (.return_, 1) := by decide +kernel
theorem dX3_attempt_0 : decode cX3_attempt 0 = .ok (.iload_n 3, 1) := by decide +kernel
theorem dX3_attempt_1 : decode cX3_attempt 1 = .ok (.aload_n 0, 1) := by decide +kernel
theorem dX3_attempt_2 : decode cX3_attempt 2 = .ok (.getfield 26, 3) := by decide +kernel
theorem dX3_attempt_5 : decode cX3_attempt 5 = .ok (.iadd, 1) := by decide +kernel
theorem dX3_attempt_6 : decode cX3_attempt 6 = .ok (.iload_n 1, 1) := by decide +kernel
theorem dX3_attempt_7 : decode cX3_attempt 7 = .ok (.isub, 1) := by decide +kernel
theorem dX3_attempt_8 : decode cX3_attempt 8 = .ok (.aload_n 0, 1) := by decide +kernel
theorem dX3_attempt_9 : decode cX3_attempt 9 = .ok (.getfield 54, 3) := by decide +kernel
theorem dX3_attempt_12 : decode cX3_attempt 12 = .ok (.if_icmp .ge 4, 3) := by decide +kernel
theorem dX3_attempt_15 : decode cX3_attempt 15 = .ok (.return_, 1) := by decide +kernel
theorem dX3_attempt_16 : decode cX3_attempt 16 = .ok (.iload_n 1, 1) := by decide +kernel
theorem dX3_attempt_17 : decode cX3_attempt 17 = .ok (.aload_n 0, 1) := by decide +kernel
theorem dX3_attempt_18 : decode cX3_attempt 18 = .ok (.getfield 26, 3) := by decide +kernel
theorem dX3_attempt_21 : decode cX3_attempt 21 = .ok (.if_icmp .lt 11, 3) := by decide +kernel
theorem dX3_attempt_24 : decode cX3_attempt 24 = .ok (.aload_n 0, 1) := by decide +kernel
theorem dX3_attempt_25 : decode cX3_attempt 25 = .ok (.iload_n 3, 1) := by decide +kernel
theorem dX3_attempt_26 : decode cX3_attempt 26 = .ok (.iload 4, 2) := by decide +kernel
theorem dX3_attempt_28 : decode cX3_attempt 28 = .ok (.invokevirtual 67, 3) := by decide +kernel
theorem dX3_attempt_31 : decode cX3_attempt 31 = .ok (.return_, 1) := by decide +kernel
theorem dX3_attempt_32 : decode cX3_attempt 32 = .ok (.iconst 0, 1) := by decide +kernel
theorem dX3_attempt_33 : decode cX3_attempt 33 = .ok (.istore 5, 2) := by decide +kernel
theorem dX3_attempt_35 : decode cX3_attempt 35 = .ok (.iload 5, 2) := by decide +kernel
theorem dX3_attempt_37 : decode cX3_attempt 37 = .ok (.aload_n 0, 1) := by decide +kernel
theorem dX3_attempt_38 : decode cX3_attempt 38 = .ok (.getfield 30, 3) := by decide +kernel
theorem dX3_attempt_41 : decode cX3_attempt 41 = .ok (.if_icmp .ge 67, 3) := by decide +kernel
theorem dX3_attempt_44 : decode cX3_attempt 44 = .ok (.aload_n 0, 1) := by decide +kernel
theorem dX3_attempt_45 : decode cX3_attempt 45 = .ok (.getfield 15, 3) := by decide +kernel
theorem dX3_attempt_48 : decode cX3_attempt 48 = .ok (.iload_n 1, 1) := by decide +kernel
theorem dX3_attempt_49 : decode cX3_attempt 49 = .ok (.iconst 5, 1) := by decide +kernel
theorem dX3_attempt_50 : decode cX3_attempt 50 = .ok (.imul, 1) := by decide +kernel
theorem dX3_attempt_51 : decode cX3_attempt 51 = .ok (.iload 5, 2) := by decide +kernel
theorem dX3_attempt_53 : decode cX3_attempt 53 = .ok (.iadd, 1) := by decide +kernel
theorem dX3_attempt_54 : decode cX3_attempt 54 = .ok (.iaload, 1) := by decide +kernel
theorem dX3_attempt_55 : decode cX3_attempt 55 = .ok (.istore 6, 2) := by decide +kernel
theorem dX3_attempt_57 : decode cX3_attempt 57 = .ok (.iload 6, 2) := by decide +kernel
theorem dX3_attempt_59 : decode cX3_attempt 59 = .ok (.ldc 53, 2) := by decide +kernel
theorem dX3_attempt_61 : decode cX3_attempt 61 = .ok (.if_icmp .eq 41, 3) := by decide +kernel
theorem dX3_attempt_64 : decode cX3_attempt 64 = .ok (.iload_n 2, 1) := by decide +kernel
theorem dX3_attempt_65 : decode cX3_attempt 65 = .ok (.iconst 1, 1) := by decide +kernel
theorem dX3_attempt_66 : decode cX3_attempt 66 = .ok (.iload 5, 2) := by decide +kernel
theorem dX3_attempt_68 : decode cX3_attempt 68 = .ok (.ishl, 1) := by decide +kernel
theorem dX3_attempt_69 : decode cX3_attempt 69 = .ok (.iand, 1) := by decide +kernel
theorem dX3_attempt_70 : decode cX3_attempt 70 = .ok (.ifCond .ne 32, 3) := by decide +kernel
theorem dX3_attempt_73 : decode cX3_attempt 73 = .ok (.aload_n 0, 1) := by decide +kernel
theorem dX3_attempt_74 : decode cX3_attempt 74 = .ok (.getfield 18, 3) := by decide +kernel
theorem dX3_attempt_77 : decode cX3_attempt 77 = .ok (.iload_n 1, 1) := by decide +kernel
theorem dX3_attempt_78 : decode cX3_attempt 78 = .ok (.iload 5, 2) := by decide +kernel
theorem dX3_attempt_80 : decode cX3_attempt 80 = .ok (.iastore, 1) := by decide +kernel
theorem dX3_attempt_81 : decode cX3_attempt 81 = .ok (.aload_n 0, 1) := by decide +kernel
theorem dX3_attempt_82 : decode cX3_attempt 82 = .ok (.iload_n 1, 1) := by decide +kernel
theorem dX3_attempt_83 : decode cX3_attempt 83 = .ok (.iconst 1, 1) := by decide +kernel
theorem dX3_attempt_84 : decode cX3_attempt 84 = .ok (.iadd, 1) := by decide +kernel
theorem dX3_attempt_85 : decode cX3_attempt 85 = .ok (.iload_n 2, 1) := by decide +kernel
theorem dX3_attempt_86 : decode cX3_attempt 86 = .ok (.iconst 1, 1) := by decide +kernel
theorem dX3_attempt_87 : decode cX3_attempt 87 = .ok (.iload 5, 2) := by decide +kernel
theorem dX3_attempt_89 : decode cX3_attempt 89 = .ok (.ishl, 1) := by decide +kernel
theorem dX3_attempt_90 : decode cX3_attempt 90 = .ok (.ior, 1) := by decide +kernel
theorem dX3_attempt_91 : decode cX3_attempt 91 = .ok (.iload_n 3, 1) := by decide +kernel
theorem dX3_attempt_92 : decode cX3_attempt 92 = .ok (.iconst 1, 1) := by decide +kernel
theorem dX3_attempt_93 : decode cX3_attempt 93 = .ok (.iadd, 1) := by decide +kernel
theorem dX3_attempt_94 : decode cX3_attempt 94 = .ok (.iload 4, 2) := by decide +kernel
theorem dX3_attempt_96 : decode cX3_attempt 96 = .ok (.iload 6, 2) := by decide +kernel
theorem dX3_attempt_98 : decode cX3_attempt 98 = .ok (.iadd, 1) := by decide +kernel
theorem dX3_attempt_99 : decode cX3_attempt 99 = .ok (.invokevirtual 60, 3) := by decide +kernel
theorem dX3_attempt_102 : decode cX3_attempt 102 = .ok (.iinc 5 1, 3) := by decide +kernel
theorem dX3_attempt_105 : decode cX3_attempt 105 = .ok (.goto (-70), 3) := by decide +kernel
theorem dX3_attempt_108 : decode cX3_attempt 108 = .ok (.aload_n 0, 1) := by decide +kernel
theorem dX3_attempt_109 : decode cX3_attempt 109 = .ok (.getfield 18, 3) := by decide +kernel
theorem dX3_attempt_112 : decode cX3_attempt 112 = .ok (.iload_n 1, 1) := by decide +kernel
theorem dX3_attempt_113 : decode cX3_attempt 113 = .ok (.ldc 53, 2) := by decide +kernel
theorem dX3_attempt_115 : decode cX3_attempt 115 = .ok (.iastore, 1) := by decide +kernel
theorem dX3_attempt_116 : decode cX3_attempt 116 = .ok (.aload_n 0, 1) := by decide +kernel
theorem dX3_attempt_117 : decode cX3_attempt 117 = .ok (.iload_n 1, 1) := by decide +kernel
theorem dX3_attempt_118 : decode cX3_attempt 118 = .ok (.iconst 1, 1) := by decide +kernel
theorem dX3_attempt_119 : decode cX3_attempt 119 = .ok (.iadd, 1) := by decide +kernel
theorem dX3_attempt_120 : decode cX3_attempt 120 = .ok (.iload_n 2, 1) := by decide +kernel
theorem dX3_attempt_121 : decode cX3_attempt 121 = .ok (.iload_n 3, 1) := by decide +kernel
theorem dX3_attempt_122 : decode cX3_attempt 122 = .ok (.iload 4, 2) := by decide +kernel
theorem dX3_attempt_124 : decode cX3_attempt 124 = .ok (.invokevirtual 60, 3) := by decide +kernel
theorem dX3_attempt_127 : decode cX3_attempt 127 = .ok (.return_, 1) := by decide +kernel
theorem dX3_keepBetter_0 : decode cX3_keepBetter 0 = .ok (.iload_n 1, 1) := by decide +kernel
theorem dX3_keepBetter_1 : decode cX3_keepBetter 1 = .ok (.aload_n 0, 1) := by decide +kernel
theorem dX3_keepBetter_2 : decode cX3_keepBetter 2 = .ok (.getfield 54, 3) := by decide +kernel
theorem dX3_keepBetter_5 : decode cX3_keepBetter 5 = .ok (.if_icmp .gt 19, 3) := by decide +kernel
theorem dX3_keepBetter_8 : decode cX3_keepBetter 8 = .ok (.iload_n 1, 1) := by decide +kernel
theorem dX3_keepBetter_9 : decode cX3_keepBetter 9 = .ok (.aload_n 0, 1) := by decide +kernel
theorem dX3_keepBetter_10 : decode cX3_keepBetter 10 = .ok (.getfield 54, 3) := by decide +kernel
theorem dX3_keepBetter_13 : decode cX3_keepBetter 13 = .ok (.if_icmp .ne 38, 3) := by decide +kernel
theorem dX3_keepBetter_16 : decode cX3_keepBetter 16 = .ok (.iload_n 2, 1) := by decide +kernel
theorem dX3_keepBetter_17 : decode cX3_keepBetter 17 = .ok (.aload_n 0, 1) := by decide +kernel
theorem dX3_keepBetter_18 : decode cX3_keepBetter 18 = .ok (.getfield 57, 3) := by decide +kernel
theorem dX3_keepBetter_21 : decode cX3_keepBetter 21 = .ok (.if_icmp .ge 30, 3) := by decide +kernel
theorem dX3_keepBetter_24 : decode cX3_keepBetter 24 = .ok (.aload_n 0, 1) := by decide +kernel
theorem dX3_keepBetter_25 : decode cX3_keepBetter 25 = .ok (.iload_n 1, 1) := by decide +kernel
theorem dX3_keepBetter_26 : decode cX3_keepBetter 26 = .ok (.putfield 54, 3) := by decide +kernel
theorem dX3_keepBetter_29 : decode cX3_keepBetter 29 = .ok (.aload_n 0, 1) := by decide +kernel
theorem dX3_keepBetter_30 : decode cX3_keepBetter 30 = .ok (.iload_n 2, 1) := by decide +kernel
theorem dX3_keepBetter_31 : decode cX3_keepBetter 31 = .ok (.putfield 57, 3) := by decide +kernel
theorem dX3_keepBetter_34 : decode cX3_keepBetter 34 = .ok (.aload_n 0, 1) := by decide +kernel
theorem dX3_keepBetter_35 : decode cX3_keepBetter 35 = .ok (.getfield 18, 3) := by decide +kernel
theorem dX3_keepBetter_38 : decode cX3_keepBetter 38 = .ok (.iconst 0, 1) := by decide +kernel
theorem dX3_keepBetter_39 : decode cX3_keepBetter 39 = .ok (.aload_n 0, 1) := by decide +kernel
theorem dX3_keepBetter_40 : decode cX3_keepBetter 40 = .ok (.getfield 9, 3) := by decide +kernel
theorem dX3_keepBetter_43 : decode cX3_keepBetter 43 = .ok (.iconst 0, 1) := by decide +kernel
theorem dX3_keepBetter_44 : decode cX3_keepBetter 44 = .ok (.aload_n 0, 1) := by decide +kernel
theorem dX3_keepBetter_45 : decode cX3_keepBetter 45 = .ok (.getfield 26, 3) := by decide +kernel
theorem dX3_keepBetter_48 : decode cX3_keepBetter 48 = .ok (.invokestatic 71, 3) := by decide +kernel
theorem dX3_keepBetter_51 : decode cX3_keepBetter 51 = .ok (.return_, 1) := by decide +kernel
theorem dX4_init_0 : decode cX4_init 0 = .ok (.aload_n 0, 1) := by decide +kernel
theorem dX4_init_1 : decode cX4_init 1 = .ok (.invokespecial 3, 3) := by decide +kernel
theorem dX4_init_4 : decode cX4_init 4 = .ok (.aload_n 0, 1) := by decide +kernel
theorem dX4_init_5 : decode cX4_init 5 = .ok (.bipush 96, 2) := by decide +kernel
theorem dX4_init_7 : decode cX4_init 7 = .ok (.newarray .int, 2) := by decide +kernel
theorem dX4_init_9 : decode cX4_init 9 = .ok (.putfield 9, 3) := by decide +kernel
theorem dX4_init_12 : decode cX4_init 12 = .ok (.aload_n 0, 1) := by decide +kernel
theorem dX4_init_13 : decode cX4_init 13 = .ok (.iconst 0, 1) := by decide +kernel
theorem dX4_init_14 : decode cX4_init 14 = .ok (.putfield 15, 3) := by decide +kernel
theorem dX4_init_17 : decode cX4_init 17 = .ok (.aload_n 0, 1) := by decide +kernel
theorem dX4_init_18 : decode cX4_init 18 = .ok (.bipush 96, 2) := by decide +kernel
theorem dX4_init_20 : decode cX4_init 20 = .ok (.newarray .int, 2) := by decide +kernel
theorem dX4_init_22 : decode cX4_init 22 = .ok (.putfield 19, 3) := by decide +kernel
theorem dX4_init_25 : decode cX4_init 25 = .ok (.return_, 1) := by decide +kernel
theorem dX4_take_0 : decode cX4_take 0 = .ok (.bipush 24, 2) := by decide +kernel
theorem dX4_take_2 : decode cX4_take 2 = .ok (.istore_n 2, 1) := by decide +kernel
theorem dX4_take_3 : decode cX4_take 3 = .ok (.iload_n 2, 1) := by decide +kernel
theorem dX4_take_4 : decode cX4_take 4 = .ok (.ifCond .lt 41, 3) := by decide +kernel
theorem dX4_take_7 : decode cX4_take 7 = .ok (.aload_n 0, 1) := by decide +kernel
theorem dX4_take_8 : decode cX4_take 8 = .ok (.getfield 15, 3) := by decide +kernel
theorem dX4_take_11 : decode cX4_take 11 = .ok (.bipush 96, 2) := by decide +kernel
theorem dX4_take_13 : decode cX4_take 13 = .ok (.if_icmp .ge 32, 3) := by decide +kernel
theorem dX4_take_16 : decode cX4_take 16 = .ok (.aload_n 0, 1) := by decide +kernel
theorem dX4_take_17 : decode cX4_take 17 = .ok (.getfield 9, 3) := by decide +kernel
theorem dX4_take_20 : decode cX4_take 20 = .ok (.aload_n 0, 1) := by decide +kernel
theorem dX4_take_21 : decode cX4_take 21 = .ok (.dup, 1) := by decide +kernel
theorem dX4_take_22 : decode cX4_take 22 = .ok (.getfield 15, 3) := by decide +kernel
theorem dX4_take_25 : decode cX4_take 25 = .ok (.dup_x1, 1) := by decide +kernel
theorem dX4_take_26 : decode cX4_take 26 = .ok (.iconst 1, 1) := by decide +kernel
theorem dX4_take_27 : decode cX4_take 27 = .ok (.iadd, 1) := by decide +kernel
theorem dX4_take_28 : decode cX4_take 28 = .ok (.putfield 15, 3) := by decide +kernel
theorem dX4_take_31 : decode cX4_take 31 = .ok (.iload_n 1, 1) := by decide +kernel
theorem dX4_take_32 : decode cX4_take 32 = .ok (.iload_n 2, 1) := by decide +kernel
theorem dX4_take_33 : decode cX4_take 33 = .ok (.iushr, 1) := by decide +kernel
theorem dX4_take_34 : decode cX4_take 34 = .ok (.sipush 255, 3) := by decide +kernel
theorem dX4_take_37 : decode cX4_take 37 = .ok (.iand, 1) := by decide +kernel
theorem dX4_take_38 : decode cX4_take 38 = .ok (.iastore, 1) := by decide +kernel
theorem dX4_take_39 : decode cX4_take 39 = .ok (.iinc 2 (-8), 3) := by decide +kernel
theorem dX4_take_42 : decode cX4_take 42 = .ok (.goto (-39), 3) := by decide +kernel
theorem dX4_take_45 : decode cX4_take 45 = .ok (.return_, 1) := by decide +kernel
theorem dX4_readText_0 : decode cX4_readText 0 = .ok (.aload_n 0, 1) := by decide +kernel
theorem dX4_readText_1 : decode cX4_readText 1 = .ok (.iconst 0, 1) := by decide +kernel
theorem dX4_readText_2 : decode cX4_readText 2 = .ok (.putfield 22, 3) := by decide +kernel
theorem dX4_readText_5 : decode cX4_readText 5 = .ok (.aload_n 0, 1) := by decide +kernel
theorem dX4_readText_6 : decode cX4_readText 6 = .ok (.iconst 3, 1) := by decide +kernel
theorem dX4_readText_7 : decode cX4_readText 7 = .ok (.putfield 25, 3) := by decide +kernel
theorem dX4_readText_10 : decode cX4_readText 10 = .ok (.aload_n 0, 1) := by decide +kernel
theorem dX4_readText_11 : decode cX4_readText 11 = .ok (.iconst 0, 1) := by decide +kernel
theorem dX4_readText_12 : decode cX4_readText 12 = .ok (.putfield 28, 3) := by decide +kernel
theorem dX4_readText_15 : decode cX4_readText 15 = .ok (.aload_n 0, 1) := by decide +kernel
theorem dX4_readText_16 : decode cX4_readText 16 = .ok (.iconst 0, 1) := by decide +kernel
theorem dX4_readText_17 : decode cX4_readText 17 = .ok (.putfield 31, 3) := by decide +kernel
theorem dX4_readText_20 : decode cX4_readText 20 = .ok (.aload_n 0, 1) := by decide +kernel
theorem dX4_readText_21 : decode cX4_readText 21 = .ok (.iconst 0, 1) := by decide +kernel
theorem dX4_readText_22 : decode cX4_readText 22 = .ok (.putfield 34, 3) := by decide +kernel
theorem dX4_readText_25 : decode cX4_readText 25 = .ok (.aload_n 0, 1) := by decide +kernel
theorem dX4_readText_26 : decode cX4_readText 26 = .ok (.iconst 0, 1) := by decide +kernel
theorem dX4_readText_27 : decode cX4_readText 27 = .ok (.putfield 37, 3) := by decide +kernel
theorem dX4_readText_30 : decode cX4_readText 30 = .ok (.aload_n 0, 1) := by decide +kernel
theorem dX4_readText_31 : decode cX4_readText 31 = .ok (.invokevirtual 40, 3) := by decide +kernel
theorem dX4_readText_34 : decode cX4_readText 34 = .ok (.aload_n 0, 1) := by decide +kernel
theorem dX4_readText_35 : decode cX4_readText 35 = .ok (.invokevirtual 43, 3) := by decide +kernel
theorem dX4_readText_38 : decode cX4_readText 38 = .ok (.ifCond .eq 29, 3) := by decide +kernel
theorem dX4_readText_41 : decode cX4_readText 41 = .ok (.aload_n 0, 1) := by decide +kernel
theorem dX4_readText_42 : decode cX4_readText 42 = .ok (.invokevirtual 47, 3) := by decide +kernel
theorem dX4_readText_45 : decode cX4_readText 45 = .ok (.ifCond .eq 22, 3) := by decide +kernel
theorem dX4_readText_48 : decode cX4_readText 48 = .ok (.aload_n 0, 1) := by decide +kernel
theorem dX4_readText_49 : decode cX4_readText 49 = .ok (.iconst 0, 1) := by decide +kernel
theorem dX4_readText_50 : decode cX4_readText 50 = .ok (.invokevirtual 50, 3) := by decide +kernel
theorem dX4_readText_53 : decode cX4_readText 53 = .ok (.ifCond .eq 14, 3) := by decide +kernel
theorem dX4_readText_56 : decode cX4_readText 56 = .ok (.aload_n 0, 1) := by decide +kernel
theorem dX4_readText_57 : decode cX4_readText 57 = .ok (.getfield 25, 3) := by decide +kernel
theorem dX4_readText_60 : decode cX4_readText 60 = .ok (.ifCond .ne 7, 3) := by decide +kernel
theorem dX4_readText_63 : decode cX4_readText 63 = .ok (.iconst 1, 1) := by decide +kernel
theorem dX4_readText_64 : decode cX4_readText 64 = .ok (.goto 4, 3) := by decide +kernel
theorem dX4_readText_67 : decode cX4_readText 67 = .ok (.iconst 0, 1) := by decide +kernel
theorem dX4_readText_68 : decode cX4_readText 68 = .ok (.ireturn, 1) := by decide +kernel
theorem dX4_step_0 : decode cX4_step 0 = .ok (.aload_n 0, 1) := by decide +kernel
theorem dX4_step_1 : decode cX4_step 1 = .ok (.getfield 25, 3) := by decide +kernel
theorem dX4_step_4 : decode cX4_step 4 = .ok (.iconst 2, 1) := by decide +kernel
theorem dX4_step_5 : decode cX4_step 5 = .ok (.if_icmp .eq 11, 3) := by decide +kernel
theorem dX4_step_8 : decode cX4_step 8 = .ok (.aload_n 0, 1) := by decide +kernel
theorem dX4_step_9 : decode cX4_step 9 = .ok (.getfield 25, 3) := by decide +kernel
theorem dX4_step_12 : decode cX4_step 12 = .ok (.iconst 1, 1) := by decide +kernel
theorem dX4_step_13 : decode cX4_step 13 = .ok (.if_icmp .ne 7, 3) := by decide +kernel
theorem dX4_step_16 : decode cX4_step 16 = .ok (.iconst 1, 1) := by decide +kernel
theorem dX4_step_17 : decode cX4_step 17 = .ok (.goto 4, 3) := by decide +kernel
theorem dX4_step_20 : decode cX4_step 20 = .ok (.iconst 0, 1) := by decide +kernel
theorem dX4_step_21 : decode cX4_step 21 = .ok (.istore_n 1, 1) := by decide +kernel
theorem dX4_step_22 : decode cX4_step 22 = .ok (.aload_n 0, 1) := by decide +kernel
theorem dX4_step_23 : decode cX4_step 23 = .ok (.getfield 22, 3) := by decide +kernel
theorem dX4_step_26 : decode cX4_step 26 = .ok (.istore_n 2, 1) := by decide +kernel
theorem dX4_step_27 : decode cX4_step 27 = .ok (.aload_n 0, 1) := by decide +kernel
theorem dX4_step_28 : decode cX4_step 28 = .ok (.aload_n 0, 1) := by decide +kernel
theorem dX4_step_29 : decode cX4_step 29 = .ok (.getfield 22, 3) := by decide +kernel
theorem dX4_step_32 : decode cX4_step 32 = .ok (.putfield 54, 3) := by decide +kernel
theorem dX4_step_35 : decode cX4_step 35 = .ok (.aload_n 0, 1) := by decide +kernel
theorem dX4_step_36 : decode cX4_step 36 = .ok (.getfield 54, 3) := by decide +kernel
theorem dX4_step_39 : decode cX4_step 39 = .ok (.aload_n 0, 1) := by decide +kernel
theorem dX4_step_40 : decode cX4_step 40 = .ok (.getfield 15, 3) := by decide +kernel
theorem dX4_step_43 : decode cX4_step 43 = .ok (.if_icmp .ge 30, 3) := by decide +kernel
theorem dX4_step_46 : decode cX4_step 46 = .ok (.aload_n 0, 1) := by decide +kernel
theorem dX4_step_47 : decode cX4_step 47 = .ok (.getfield 9, 3) := by decide +kernel
theorem dX4_step_50 : decode cX4_step 50 = .ok (.aload_n 0, 1) := by decide +kernel
theorem dX4_step_51 : decode cX4_step 51 = .ok (.getfield 54, 3) := by decide +kernel
theorem dX4_step_54 : decode cX4_step 54 = .ok (.iaload, 1) := by decide +kernel
theorem dX4_step_55 : decode cX4_step 55 = .ok (.bipush 32, 2) := by decide +kernel
theorem dX4_step_57 : decode cX4_step 57 = .ok (.if_icmp .ne 16, 3) := by decide +kernel
theorem dX4_step_60 : decode cX4_step 60 = .ok (.aload_n 0, 1) := by decide +kernel
theorem dX4_step_61 : decode cX4_step 61 = .ok (.dup, 1) := by decide +kernel
theorem dX4_step_62 : decode cX4_step 62 = .ok (.getfield 54, 3) := by decide +kernel
theorem dX4_step_65 : decode cX4_step 65 = .ok (.iconst 1, 1) := by decide +kernel
theorem dX4_step_66 : decode cX4_step 66 = .ok (.iadd, 1) := by decide +kernel
theorem dX4_step_67 : decode cX4_step 67 = .ok (.putfield 54, 3) := by decide +kernel
theorem dX4_step_70 : decode cX4_step 70 = .ok (.goto (-35), 3) := by decide +kernel
theorem dX4_step_73 : decode cX4_step 73 = .ok (.aload_n 0, 1) := by decide +kernel
theorem dX4_step_74 : decode cX4_step 74 = .ok (.aload_n 0, 1) := by decide +kernel
theorem dX4_step_75 : decode cX4_step 75 = .ok (.getfield 54, 3) := by decide +kernel
theorem dX4_step_78 : decode cX4_step 78 = .ok (.putfield 22, 3) := by decide +kernel
theorem dX4_step_81 : decode cX4_step 81 = .ok (.aload_n 0, 1) := by decide +kernel
theorem dX4_step_82 : decode cX4_step 82 = .ok (.getfield 54, 3) := by decide +kernel
theorem dX4_step_85 : decode cX4_step 85 = .ok (.aload_n 0, 1) := by decide +kernel
theorem dX4_step_86 : decode cX4_step 86 = .ok (.getfield 15, 3) := by decide +kernel
theorem dX4_step_89 : decode cX4_step 89 = .ok (.if_icmp .lt 11, 3) := by decide +kernel
theorem dX4_step_92 : decode cX4_step 92 = .ok (.aload_n 0, 1) := by decide +kernel
theorem dX4_step_93 : decode cX4_step 93 = .ok (.iconst 0, 1) := by decide +kernel
theorem dX4_step_94 : decode cX4_step 94 = .ok (.putfield 25, 3) := by decide +kernel
theorem dX4_step_97 : decode cX4_step 97 = .ok (.goto 76, 3) := by decide +kernel
theorem dX4_step_100 : decode cX4_step 100 = .ok (.aload_n 0, 1) := by decide +kernel
theorem dX4_step_101 : decode cX4_step 101 = .ok (.getfield 9, 3) := by decide +kernel
theorem dX4_step_104 : decode cX4_step 104 = .ok (.aload_n 0, 1) := by decide +kernel
theorem dX4_step_105 : decode cX4_step 105 = .ok (.getfield 54, 3) := by decide +kernel
theorem dX4_step_108 : decode cX4_step 108 = .ok (.iaload, 1) := by decide +kernel
theorem dX4_step_109 : decode cX4_step 109 = .ok (.invokestatic 57, 3) := by decide +kernel
theorem dX4_step_112 : decode cX4_step 112 = .ok (.ifCond .eq 10, 3) := by decide +kernel
theorem dX4_step_115 : decode cX4_step 115 = .ok (.aload_n 0, 1) := by decide +kernel
theorem dX4_step_116 : decode cX4_step 116 = .ok (.invokevirtual 60, 3) := by decide +kernel
theorem dX4_step_119 : decode cX4_step 119 = .ok (.goto 54, 3) := by decide +kernel
theorem dX4_step_122 : decode cX4_step 122 = .ok (.aload_n 0, 1) := by decide +kernel
theorem dX4_step_123 : decode cX4_step 123 = .ok (.getfield 9, 3) := by decide +kernel
theorem dX4_step_126 : decode cX4_step 126 = .ok (.aload_n 0, 1) := by decide +kernel
theorem dX4_step_127 : decode cX4_step 127 = .ok (.getfield 54, 3) := by decide +kernel
theorem dX4_step_130 : decode cX4_step 130 = .ok (.iaload, 1) := by decide +kernel
theorem dX4_step_131 : decode cX4_step 131 = .ok (.invokestatic 63, 3) := by decide +kernel
theorem dX4_step_134 : decode cX4_step 134 = .ok (.ifCond .eq 10, 3) := by decide +kernel
theorem dX4_step_137 : decode cX4_step 137 = .ok (.aload_n 0, 1) := by decide +kernel
theorem dX4_step_138 : decode cX4_step 138 = .ok (.invokevirtual 66, 3) := by decide +kernel
theorem dX4_step_141 : decode cX4_step 141 = .ok (.goto 32, 3) := by decide +kernel
theorem dX4_step_144 : decode cX4_step 144 = .ok (.aload_n 0, 1) := by decide +kernel
theorem dX4_step_145 : decode cX4_step 145 = .ok (.iconst 3, 1) := by decide +kernel
theorem dX4_step_146 : decode cX4_step 146 = .ok (.putfield 25, 3) := by decide +kernel
theorem dX4_step_149 : decode cX4_step 149 = .ok (.aload_n 0, 1) := by decide +kernel
theorem dX4_step_150 : decode cX4_step 150 = .ok (.aload_n 0, 1) := by decide +kernel
theorem dX4_step_151 : decode cX4_step 151 = .ok (.getfield 9, 3) := by decide +kernel
theorem dX4_step_154 : decode cX4_step 154 = .ok (.aload_n 0, 1) := by decide +kernel
theorem dX4_step_155 : decode cX4_step 155 = .ok (.getfield 54, 3) := by decide +kernel
theorem dX4_step_158 : decode cX4_step 158 = .ok (.iaload, 1) := by decide +kernel
theorem dX4_step_159 : decode cX4_step 159 = .ok (.putfield 69, 3) := by decide +kernel
theorem dX4_step_162 : decode cX4_step 162 = .ok (.aload_n 0, 1) := by decide +kernel
theorem dX4_step_163 : decode cX4_step 163 = .ok (.aload_n 0, 1) := by decide +kernel
theorem dX4_step_164 : decode cX4_step 164 = .ok (.getfield 54, 3) := by decide +kernel
theorem dX4_step_167 : decode cX4_step 167 = .ok (.iconst 1, 1) := by decide +kernel
theorem dX4_step_168 : decode cX4_step 168 = .ok (.iadd, 1) := by decide +kernel
theorem dX4_step_169 : decode cX4_step 169 = .ok (.putfield 22, 3) := by decide +kernel
theorem dX4_step_172 : decode cX4_step 172 = .ok (.return_, 1) := by decide +kernel
theorem dX4_step_173 : decode cX4_step 173 = .ok (.iload_n 1, 1) := by decide +kernel
theorem dX4_step_174 : decode cX4_step 174 = .ok (.ifCond .eq 23, 3) := by decide +kernel
theorem dX4_step_177 : decode cX4_step 177 = .ok (.aload_n 0, 1) := by decide +kernel
theorem dX4_step_178 : decode cX4_step 178 = .ok (.getfield 25, 3) := by decide +kernel
theorem dX4_step_181 : decode cX4_step 181 = .ok (.ifCond .eq 16, 3) := by decide +kernel
theorem dX4_step_184 : decode cX4_step 184 = .ok (.aload_n 0, 1) := by decide +kernel
theorem dX4_step_185 : decode cX4_step 185 = .ok (.getfield 54, 3) := by decide +kernel
theorem dX4_step_188 : decode cX4_step 188 = .ok (.iload_n 2, 1) := by decide +kernel
theorem dX4_step_189 : decode cX4_step 189 = .ok (.if_icmp .ne 8, 3) := by decide +kernel
theorem dX4_step_192 : decode cX4_step 192 = .ok (.aload_n 0, 1) := by decide +kernel
theorem dX4_step_193 : decode cX4_step 193 = .ok (.iconst 4, 1) := by decide +kernel
theorem dX4_step_194 : decode cX4_step 194 = .ok (.putfield 25, 3) := by decide +kernel
theorem dX4_step_197 : decode cX4_step 197 = .ok (.return_, 1) := by decide +kernel
theorem dX4_takeLetters_0 : decode cX4_takeLetters 0 = .ok (.aload_n 0, 1) := by decide +kernel
theorem dX4_takeLetters_1 : decode cX4_takeLetters 1 = .ok (.iconst 2, 1) := by decide +kernel
theorem dX4_takeLetters_2 : decode cX4_takeLetters 2 = .ok (.putfield 25, 3) := by decide +kernel
theorem dX4_takeLetters_5 : decode cX4_takeLetters 5 = .ok (.aload_n 0, 1) := by decide +kernel
theorem dX4_takeLetters_6 : decode cX4_takeLetters 6 = .ok (.getfield 22, 3) := by decide +kernel
theorem dX4_takeLetters_9 : decode cX4_takeLetters 9 = .ok (.aload_n 0, 1) := by decide +kernel
theorem dX4_takeLetters_10 : decode cX4_takeLetters 10 = .ok (.getfield 15, 3) := by decide +kernel
theorem dX4_takeLetters_13 : decode cX4_takeLetters 13 = .ok (.if_icmp .ge 31, 3) := by decide +kernel
theorem dX4_takeLetters_16 : decode cX4_takeLetters 16 = .ok (.aload_n 0, 1) := by decide +kernel
theorem dX4_takeLetters_17 : decode cX4_takeLetters 17 = .ok (.getfield 9, 3) := by decide +kernel
theorem dX4_takeLetters_20 : decode cX4_takeLetters 20 = .ok (.aload_n 0, 1) := by decide +kernel
theorem dX4_takeLetters_21 : decode cX4_takeLetters 21 = .ok (.getfield 22, 3) := by decide +kernel
theorem dX4_takeLetters_24 : decode cX4_takeLetters 24 = .ok (.iaload, 1) := by decide +kernel
theorem dX4_takeLetters_25 : decode cX4_takeLetters 25 = .ok (.invokestatic 57, 3) := by decide +kernel
theorem dX4_takeLetters_28 : decode cX4_takeLetters 28 = .ok (.ifCond .eq 16, 3) := by decide +kernel
theorem dX4_takeLetters_31 : decode cX4_takeLetters 31 = .ok (.aload_n 0, 1) := by decide +kernel
theorem dX4_takeLetters_32 : decode cX4_takeLetters 32 = .ok (.dup, 1) := by decide +kernel
theorem dX4_takeLetters_33 : decode cX4_takeLetters 33 = .ok (.getfield 22, 3) := by decide +kernel
theorem dX4_takeLetters_36 : decode cX4_takeLetters 36 = .ok (.iconst 1, 1) := by decide +kernel
theorem dX4_takeLetters_37 : decode cX4_takeLetters 37 = .ok (.iadd, 1) := by decide +kernel
theorem dX4_takeLetters_38 : decode cX4_takeLetters 38 = .ok (.putfield 22, 3) := by decide +kernel
theorem dX4_takeLetters_41 : decode cX4_takeLetters 41 = .ok (.goto (-36), 3) := by decide +kernel
theorem dX4_takeLetters_44 : decode cX4_takeLetters 44 = .ok (.return_, 1) := by decide +kernel
theorem dX4_takeDigits_0 : decode cX4_takeDigits 0 = .ok (.aload_n 0, 1) := by decide +kernel
theorem dX4_takeDigits_1 : decode cX4_takeDigits 1 = .ok (.iconst 0, 1) := by decide +kernel
theorem dX4_takeDigits_2 : decode cX4_takeDigits 2 = .ok (.putfield 69, 3) := by decide +kernel
theorem dX4_takeDigits_5 : decode cX4_takeDigits 5 = .ok (.aload_n 0, 1) := by decide +kernel
theorem dX4_takeDigits_6 : decode cX4_takeDigits 6 = .ok (.getfield 22, 3) := by decide +kernel
theorem dX4_takeDigits_9 : decode cX4_takeDigits 9 = .ok (.aload_n 0, 1) := by decide +kernel
theorem dX4_takeDigits_10 : decode cX4_takeDigits 10 = .ok (.getfield 15, 3) := by decide +kernel
theorem dX4_takeDigits_13 : decode cX4_takeDigits 13 = .ok (.if_icmp .ge 55, 3) := by decide +kernel
theorem dX4_takeDigits_16 : decode cX4_takeDigits 16 = .ok (.aload_n 0, 1) := by decide +kernel
theorem dX4_takeDigits_17 : decode cX4_takeDigits 17 = .ok (.getfield 9, 3) := by decide +kernel
theorem dX4_takeDigits_20 : decode cX4_takeDigits 20 = .ok (.aload_n 0, 1) := by decide +kernel
theorem dX4_takeDigits_21 : decode cX4_takeDigits 21 = .ok (.getfield 22, 3) := by decide +kernel
theorem dX4_takeDigits_24 : decode cX4_takeDigits 24 = .ok (.iaload, 1) := by decide +kernel
theorem dX4_takeDigits_25 : decode cX4_takeDigits 25 = .ok (.invokestatic 63, 3) := by decide +kernel
theorem dX4_takeDigits_28 : decode cX4_takeDigits 28 = .ok (.ifCond .eq 40, 3) := by decide +kernel
theorem dX4_takeDigits_31 : decode cX4_takeDigits 31 = .ok (.aload_n 0, 1) := by decide +kernel
theorem dX4_takeDigits_32 : decode cX4_takeDigits 32 = .ok (.aload_n 0, 1) := by decide +kernel
theorem dX4_takeDigits_33 : decode cX4_takeDigits 33 = .ok (.getfield 69, 3) := by decide +kernel
theorem dX4_takeDigits_36 : decode cX4_takeDigits 36 = .ok (.bipush 10, 2) := by decide +kernel
theorem dX4_takeDigits_38 : decode cX4_takeDigits 38 = .ok (.imul, 1) := by decide +kernel
theorem dX4_takeDigits_39 : decode cX4_takeDigits 39 = .ok (.aload_n 0, 1) := by decide +kernel
theorem dX4_takeDigits_40 : decode cX4_takeDigits 40 = .ok (.getfield 9, 3) := by decide +kernel
theorem dX4_takeDigits_43 : decode cX4_takeDigits 43 = .ok (.aload_n 0, 1) := by decide +kernel
theorem dX4_takeDigits_44 : decode cX4_takeDigits 44 = .ok (.getfield 22, 3) := by decide +kernel
theorem dX4_takeDigits_47 : decode cX4_takeDigits 47 = .ok (.iaload, 1) := by decide +kernel
theorem dX4_takeDigits_48 : decode cX4_takeDigits 48 = .ok (.iadd, 1) := by decide +kernel
theorem dX4_takeDigits_49 : decode cX4_takeDigits 49 = .ok (.bipush 48, 2) := by decide +kernel
theorem dX4_takeDigits_51 : decode cX4_takeDigits 51 = .ok (.isub, 1) := by decide +kernel
theorem dX4_takeDigits_52 : decode cX4_takeDigits 52 = .ok (.putfield 69, 3) := by decide +kernel
theorem dX4_takeDigits_55 : decode cX4_takeDigits 55 = .ok (.aload_n 0, 1) := by decide +kernel
theorem dX4_takeDigits_56 : decode cX4_takeDigits 56 = .ok (.dup, 1) := by decide +kernel
theorem dX4_takeDigits_57 : decode cX4_takeDigits 57 = .ok (.getfield 22, 3) := by decide +kernel
theorem dX4_takeDigits_60 : decode cX4_takeDigits 60 = .ok (.iconst 1, 1) := by decide +kernel
theorem dX4_takeDigits_61 : decode cX4_takeDigits 61 = .ok (.iadd, 1) := by decide +kernel
theorem dX4_takeDigits_62 : decode cX4_takeDigits 62 = .ok (.putfield 22, 3) := by decide +kernel
theorem dX4_takeDigits_65 : decode cX4_takeDigits 65 = .ok (.goto (-60), 3) := by decide +kernel
theorem dX4_takeDigits_68 : decode cX4_takeDigits 68 = .ok (.aload_n 0, 1) := by decide +kernel
theorem dX4_takeDigits_69 : decode cX4_takeDigits 69 = .ok (.aload_n 0, 1) := by decide +kernel
theorem dX4_takeDigits_70 : decode cX4_takeDigits 70 = .ok (.getfield 22, 3) := by decide +kernel
theorem dX4_takeDigits_73 : decode cX4_takeDigits 73 = .ok (.aload_n 0, 1) := by decide +kernel
theorem dX4_takeDigits_74 : decode cX4_takeDigits 74 = .ok (.getfield 54, 3) := by decide +kernel
theorem dX4_takeDigits_77 : decode cX4_takeDigits 77 = .ok (.isub, 1) := by decide +kernel
theorem dX4_takeDigits_78 : decode cX4_takeDigits 78 = .ok (.iconst 4, 1) := by decide +kernel
theorem dX4_takeDigits_79 : decode cX4_takeDigits 79 = .ok (.if_icmp .le 7, 3) := by decide +kernel
theorem dX4_takeDigits_82 : decode cX4_takeDigits 82 = .ok (.iconst 4, 1) := by decide +kernel
theorem dX4_takeDigits_83 : decode cX4_takeDigits 83 = .ok (.goto 4, 3) := by decide +kernel
theorem dX4_takeDigits_86 : decode cX4_takeDigits 86 = .ok (.iconst 1, 1) := by decide +kernel
theorem dX4_takeDigits_87 : decode cX4_takeDigits 87 = .ok (.putfield 25, 3) := by decide +kernel
theorem dX4_takeDigits_90 : decode cX4_takeDigits 90 = .ok (.return_, 1) := by decide +kernel
theorem dX4_isLetter_0 : decode cX4_isLetter 0 = .ok (.iload_n 0, 1) := by decide +kernel
theorem dX4_isLetter_1 : decode cX4_isLetter 1 = .ok (.bipush 97, 2) := by decide +kernel
theorem dX4_isLetter_3 : decode cX4_isLetter 3 = .ok (.bipush 122, 2) := by decide +kernel
theorem dX4_isLetter_5 : decode cX4_isLetter 5 = .ok (.invokestatic 72, 3) := by decide +kernel
theorem dX4_isLetter_8 : decode cX4_isLetter 8 = .ok (.ireturn, 1) := by decide +kernel
theorem dX4_isDigit_0 : decode cX4_isDigit 0 = .ok (.iload_n 0, 1) := by decide +kernel
theorem dX4_isDigit_1 : decode cX4_isDigit 1 = .ok (.bipush 48, 2) := by decide +kernel
theorem dX4_isDigit_3 : decode cX4_isDigit 3 = .ok (.bipush 57, 2) := by decide +kernel
theorem dX4_isDigit_5 : decode cX4_isDigit 5 = .ok (.invokestatic 72, 3) := by decide +kernel
theorem dX4_isDigit_8 : decode cX4_isDigit 8 = .ok (.ireturn, 1) := by decide +kernel
theorem dX4_isSpelt_0 : decode cX4_isSpelt 0 = .ok (.aload_n 0, 1) := by decide +kernel
theorem dX4_isSpelt_1 : decode cX4_isSpelt 1 = .ok (.getfield 25, 3) := by decide +kernel
theorem dX4_isSpelt_4 : decode cX4_isSpelt 4 = .ok (.iconst 2, 1) := by decide +kernel
theorem dX4_isSpelt_5 : decode cX4_isSpelt 5 = .ok (.if_icmp .ne 19, 3) := by decide +kernel
theorem dX4_isSpelt_8 : decode cX4_isSpelt 8 = .ok (.aload_n 0, 1) := by decide +kernel
theorem dX4_isSpelt_9 : decode cX4_isSpelt 9 = .ok (.getfield 22, 3) := by decide +kernel
theorem dX4_isSpelt_12 : decode cX4_isSpelt 12 = .ok (.aload_n 0, 1) := by decide +kernel
theorem dX4_isSpelt_13 : decode cX4_isSpelt 13 = .ok (.getfield 54, 3) := by decide +kernel
theorem dX4_isSpelt_16 : decode cX4_isSpelt 16 = .ok (.isub, 1) := by decide +kernel
theorem dX4_isSpelt_17 : decode cX4_isSpelt 17 = .ok (.aload_n 1, 1) := by decide +kernel
theorem dX4_isSpelt_18 : decode cX4_isSpelt 18 = .ok (.invokevirtual 76, 3) := by decide +kernel
theorem dX4_isSpelt_21 : decode cX4_isSpelt 21 = .ok (.if_icmp .eq 5, 3) := by decide +kernel
theorem dX4_isSpelt_24 : decode cX4_isSpelt 24 = .ok (.iconst 0, 1) := by decide +kernel
theorem dX4_isSpelt_25 : decode cX4_isSpelt 25 = .ok (.ireturn, 1) := by decide +kernel
theorem dX4_isSpelt_26 : decode cX4_isSpelt 26 = .ok (.iconst 0, 1) := by decide +kernel
theorem dX4_isSpelt_27 : decode cX4_isSpelt 27 = .ok (.istore_n 2, 1) := by decide +kernel
theorem dX4_isSpelt_28 : decode cX4_isSpelt 28 = .ok (.iload_n 2, 1) := by decide +kernel
theorem dX4_isSpelt_29 : decode cX4_isSpelt 29 = .ok (.aload_n 1, 1) := by decide +kernel
theorem dX4_isSpelt_30 : decode cX4_isSpelt 30 = .ok (.invokevirtual 76, 3) := by decide +kernel
theorem dX4_isSpelt_33 : decode cX4_isSpelt 33 = .ok (.if_icmp .ge 30, 3) := by decide +kernel
theorem dX4_isSpelt_36 : decode cX4_isSpelt 36 = .ok (.aload_n 0, 1) := by decide +kernel
theorem dX4_isSpelt_37 : decode cX4_isSpelt 37 = .ok (.getfield 9, 3) := by decide +kernel
theorem dX4_isSpelt_40 : decode cX4_isSpelt 40 = .ok (.aload_n 0, 1) := by decide +kernel
theorem dX4_isSpelt_41 : decode cX4_isSpelt 41 = .ok (.getfield 54, 3) := by decide +kernel
theorem dX4_isSpelt_44 : decode cX4_isSpelt 44 = .ok (.iload_n 2, 1) := by decide +kernel
theorem dX4_isSpelt_45 : decode cX4_isSpelt 45 = .ok (.iadd, 1) := by decide +kernel
theorem dX4_isSpelt_46 : decode cX4_isSpelt 46 = .ok (.iaload, 1) := by decide +kernel
theorem dX4_isSpelt_47 : decode cX4_isSpelt 47 = .ok (.aload_n 1, 1) := by decide +kernel
theorem dX4_isSpelt_48 : decode cX4_isSpelt 48 = .ok (.iload_n 2, 1) := by decide +kernel
theorem dX4_isSpelt_49 : decode cX4_isSpelt 49 = .ok (.invokevirtual 81, 3) := by decide +kernel
theorem dX4_isSpelt_52 : decode cX4_isSpelt 52 = .ok (.if_icmp .eq 5, 3) := by decide +kernel
theorem dX4_isSpelt_55 : decode cX4_isSpelt 55 = .ok (.iconst 0, 1) := by decide +kernel
theorem dX4_isSpelt_56 : decode cX4_isSpelt 56 = .ok (.ireturn, 1) := by decide +kernel
theorem dX4_isSpelt_57 : decode cX4_isSpelt 57 = .ok (.iinc 2 1, 3) := by decide +kernel
theorem dX4_isSpelt_60 : decode cX4_isSpelt 60 = .ok (.goto (-32), 3) := by decide +kernel
theorem dX4_isSpelt_63 : decode cX4_isSpelt 63 = .ok (.iconst 1, 1) := by decide +kernel
theorem dX4_isSpelt_64 : decode cX4_isSpelt 64 = .ok (.ireturn, 1) := by decide +kernel
theorem dX4_readKey_0 : decode cX4_readKey 0 = .ok (.aload_n 0, 1) := by decide +kernel
theorem dX4_readKey_1 : decode cX4_readKey 1 = .ok (.aload_n 0, 1) := by decide +kernel
theorem dX4_readKey_2 : decode cX4_readKey 2 = .ok (.ldc 85, 2) := by decide +kernel
theorem dX4_readKey_4 : decode cX4_readKey 4 = .ok (.invokevirtual 87, 3) := by decide +kernel
theorem dX4_readKey_7 : decode cX4_readKey 7 = .ok (.ifCond .eq 7, 3) := by decide +kernel
theorem dX4_readKey_10 : decode cX4_readKey 10 = .ok (.iconst 0, 1) := by decide +kernel
theorem dX4_readKey_11 : decode cX4_readKey 11 = .ok (.goto 31, 3) := by decide +kernel
theorem dX4_readKey_14 : decode cX4_readKey 14 = .ok (.aload_n 0, 1) := by decide +kernel
theorem dX4_readKey_15 : decode cX4_readKey 15 = .ok (.ldc 91, 2) := by decide +kernel
theorem dX4_readKey_17 : decode cX4_readKey 17 = .ok (.invokevirtual 87, 3) := by decide +kernel
theorem dX4_readKey_20 : decode cX4_readKey 20 = .ok (.ifCond .eq 7, 3) := by decide +kernel
theorem dX4_readKey_23 : decode cX4_readKey 23 = .ok (.iconst 1, 1) := by decide +kernel
theorem dX4_readKey_24 : decode cX4_readKey 24 = .ok (.goto 18, 3) := by decide +kernel
theorem dX4_readKey_27 : decode cX4_readKey 27 = .ok (.aload_n 0, 1) := by decide +kernel
theorem dX4_readKey_28 : decode cX4_readKey 28 = .ok (.ldc 93, 2) := by decide +kernel
theorem dX4_readKey_30 : decode cX4_readKey 30 = .ok (.invokevirtual 87, 3) := by decide +kernel
theorem dX4_readKey_33 : decode cX4_readKey 33 = .ok (.ifCond .eq 7, 3) := by decide +kernel
theorem dX4_readKey_36 : decode cX4_readKey 36 = .ok (.iconst 2, 1) := by decide +kernel
theorem dX4_readKey_37 : decode cX4_readKey 37 = .ok (.goto 5, 3) := by decide +kernel
theorem dX4_readKey_40 : decode cX4_readKey 40 = .ok (.ldc 95, 2) := by decide +kernel
theorem dX4_readKey_42 : decode cX4_readKey 42 = .ok (.putfield 96, 3) := by decide +kernel
theorem dX4_readKey_45 : decode cX4_readKey 45 = .ok (.aload_n 0, 1) := by decide +kernel
theorem dX4_readKey_46 : decode cX4_readKey 46 = .ok (.getfield 96, 3) := by decide +kernel
theorem dX4_readKey_49 : decode cX4_readKey 49 = .ok (.ldc 95, 2) := by decide +kernel
theorem dX4_readKey_51 : decode cX4_readKey 51 = .ok (.if_icmp .ne 5, 3) := by decide +kernel
theorem dX4_readKey_54 : decode cX4_readKey 54 = .ok (.iconst 0, 1) := by decide +kernel
theorem dX4_readKey_55 : decode cX4_readKey 55 = .ok (.ireturn, 1) := by decide +kernel
theorem dX4_readKey_56 : decode cX4_readKey 56 = .ok (.aload_n 0, 1) := by decide +kernel
theorem dX4_readKey_57 : decode cX4_readKey 57 = .ok (.invokevirtual 40, 3) := by decide +kernel
theorem dX4_readKey_60 : decode cX4_readKey 60 = .ok (.iconst 1, 1) := by decide +kernel
theorem dX4_readKey_61 : decode cX4_readKey 61 = .ok (.ireturn, 1) := by decide +kernel
theorem dX4_readVoyage_0 : decode cX4_readVoyage 0 = .ok (.aload_n 0, 1) := by decide +kernel
theorem dX4_readVoyage_1 : decode cX4_readVoyage 1 = .ok (.getfield 25, 3) := by decide +kernel
theorem dX4_readVoyage_4 : decode cX4_readVoyage 4 = .ok (.iconst 1, 1) := by decide +kernel
theorem dX4_readVoyage_5 : decode cX4_readVoyage 5 = .ok (.if_icmp .ne 11, 3) := by decide +kernel
theorem dX4_readVoyage_8 : decode cX4_readVoyage 8 = .ok (.aload_n 0, 1) := by decide +kernel
theorem dX4_readVoyage_9 : decode cX4_readVoyage 9 = .ok (.getfield 69, 3) := by decide +kernel
theorem dX4_readVoyage_12 : decode cX4_readVoyage 12 = .ok (.iconst 3, 1) := by decide +kernel
theorem dX4_readVoyage_13 : decode cX4_readVoyage 13 = .ok (.if_icmp .lt 5, 3) := by decide +kernel
theorem dX4_readVoyage_16 : decode cX4_readVoyage 16 = .ok (.iconst 0, 1) := by decide +kernel
theorem dX4_readVoyage_17 : decode cX4_readVoyage 17 = .ok (.ireturn, 1) := by decide +kernel
theorem dX4_readVoyage_18 : decode cX4_readVoyage 18 = .ok (.aload_n 0, 1) := by decide +kernel
theorem dX4_readVoyage_19 : decode cX4_readVoyage 19 = .ok (.aload_n 0, 1) := by decide +kernel
theorem dX4_readVoyage_20 : decode cX4_readVoyage 20 = .ok (.getfield 69, 3) := by decide +kernel
theorem dX4_readVoyage_23 : decode cX4_readVoyage 23 = .ok (.putfield 99, 3) := by decide +kernel
theorem dX4_readVoyage_26 : decode cX4_readVoyage 26 = .ok (.aload_n 0, 1) := by decide +kernel
theorem dX4_readVoyage_27 : decode cX4_readVoyage 27 = .ok (.invokevirtual 40, 3) := by decide +kernel
theorem dX4_readVoyage_30 : decode cX4_readVoyage 30 = .ok (.iconst 1, 1) := by decide +kernel
theorem dX4_readVoyage_31 : decode cX4_readVoyage 31 = .ok (.ireturn, 1) := by decide +kernel
theorem dX4_readLevel_0 : decode cX4_readLevel 0 = .ok (.iload_n 1, 1) := by decide +kernel
theorem dX4_readLevel_1 : decode cX4_readLevel 1 = .ok (.iconst 5, 1) := by decide +kernel
theorem dX4_readLevel_2 : decode cX4_readLevel 2 = .ok (.if_icmp .lt 8, 3) := by decide +kernel
theorem dX4_readLevel_5 : decode cX4_readLevel 5 = .ok (.aload_n 0, 1) := by decide +kernel
theorem dX4_readLevel_6 : decode cX4_readLevel 6 = .ok (.invokevirtual 102, 3) := by decide +kernel
theorem dX4_readLevel_9 : decode cX4_readLevel 9 = .ok (.ireturn, 1) := by decide +kernel
theorem dX4_readLevel_10 : decode cX4_readLevel 10 = .ok (.aload_n 0, 1) := by decide +kernel
theorem dX4_readLevel_11 : decode cX4_readLevel 11 = .ok (.iload_n 1, 1) := by decide +kernel
theorem dX4_readLevel_12 : decode cX4_readLevel 12 = .ok (.iconst 1, 1) := by decide +kernel
theorem dX4_readLevel_13 : decode cX4_readLevel 13 = .ok (.iadd, 1) := by decide +kernel
theorem dX4_readLevel_14 : decode cX4_readLevel 14 = .ok (.invokevirtual 50, 3) := by decide +kernel
theorem dX4_readLevel_17 : decode cX4_readLevel 17 = .ok (.istore_n 2, 1) := by decide +kernel
theorem dX4_readLevel_18 : decode cX4_readLevel 18 = .ok (.iload_n 1, 1) := by decide +kernel
theorem dX4_readLevel_19 : decode cX4_readLevel 19 = .ok (.iconst 2, 1) := by decide +kernel
theorem dX4_readLevel_20 : decode cX4_readLevel 20 = .ok (.if_icmp .ne 7, 3) := by decide +kernel
theorem dX4_readLevel_23 : decode cX4_readLevel 23 = .ok (.iconst 1, 1) := by decide +kernel
theorem dX4_readLevel_24 : decode cX4_readLevel 24 = .ok (.goto 5, 3) := by decide +kernel
theorem dX4_readLevel_27 : decode cX4_readLevel 27 = .ok (.bipush 96, 2) := by decide +kernel
theorem dX4_readLevel_29 : decode cX4_readLevel 29 = .ok (.istore_n 3, 1) := by decide +kernel
theorem dX4_readLevel_30 : decode cX4_readLevel 30 = .ok (.iconst 0, 1) := by decide +kernel
theorem dX4_readLevel_31 : decode cX4_readLevel 31 = .ok (.istore 4, 2) := by decide +kernel
theorem dX4_readLevel_33 : decode cX4_readLevel 33 = .ok (.iload 4, 2) := by decide +kernel
theorem dX4_readLevel_35 : decode cX4_readLevel 35 = .ok (.iload_n 3, 1) := by decide +kernel
theorem dX4_readLevel_36 : decode cX4_readLevel 36 = .ok (.if_icmp .ge 57, 3) := by decide +kernel
theorem dX4_readLevel_39 : decode cX4_readLevel 39 = .ok (.iload_n 2, 1) := by decide +kernel
theorem dX4_readLevel_40 : decode cX4_readLevel 40 = .ok (.ifCond .eq 53, 3) := by decide +kernel
theorem dX4_readLevel_43 : decode cX4_readLevel 43 = .ok (.aload_n 0, 1) := by decide +kernel
theorem dX4_readLevel_44 : decode cX4_readLevel 44 = .ok (.getfield 25, 3) := by decide +kernel
theorem dX4_readLevel_47 : decode cX4_readLevel 47 = .ok (.iconst 3, 1) := by decide +kernel
theorem dX4_readLevel_48 : decode cX4_readLevel 48 = .ok (.if_icmp .ne 45, 3) := by decide +kernel
theorem dX4_readLevel_51 : decode cX4_readLevel 51 = .ok (.aload_n 0, 1) := by decide +kernel
theorem dX4_readLevel_52 : decode cX4_readLevel 52 = .ok (.getfield 69, 3) := by decide +kernel
theorem dX4_readLevel_55 : decode cX4_readLevel 55 = .ok (.invokestatic 105, 3) := by decide +kernel
theorem dX4_readLevel_58 : decode cX4_readLevel 58 = .ok (.iload_n 1, 1) := by decide +kernel
theorem dX4_readLevel_59 : decode cX4_readLevel 59 = .ok (.if_icmp .ne 34, 3) := by decide +kernel
theorem dX4_readLevel_62 : decode cX4_readLevel 62 = .ok (.aload_n 0, 1) := by decide +kernel
theorem dX4_readLevel_63 : decode cX4_readLevel 63 = .ok (.getfield 69, 3) := by decide +kernel
theorem dX4_readLevel_66 : decode cX4_readLevel 66 = .ok (.istore 5, 2) := by decide +kernel
theorem dX4_readLevel_68 : decode cX4_readLevel 68 = .ok (.aload_n 0, 1) := by decide +kernel
theorem dX4_readLevel_69 : decode cX4_readLevel 69 = .ok (.invokevirtual 40, 3) := by decide +kernel
theorem dX4_readLevel_72 : decode cX4_readLevel 72 = .ok (.aload_n 0, 1) := by decide +kernel
theorem dX4_readLevel_73 : decode cX4_readLevel 73 = .ok (.iload_n 1, 1) := by decide +kernel
theorem dX4_readLevel_74 : decode cX4_readLevel 74 = .ok (.iconst 1, 1) := by decide +kernel
theorem dX4_readLevel_75 : decode cX4_readLevel 75 = .ok (.iadd, 1) := by decide +kernel
theorem dX4_readLevel_76 : decode cX4_readLevel 76 = .ok (.invokevirtual 50, 3) := by decide +kernel
theorem dX4_readLevel_79 : decode cX4_readLevel 79 = .ok (.istore_n 2, 1) := by decide +kernel
theorem dX4_readLevel_80 : decode cX4_readLevel 80 = .ok (.aload_n 0, 1) := by decide +kernel
theorem dX4_readLevel_81 : decode cX4_readLevel 81 = .ok (.iload 5, 2) := by decide +kernel
theorem dX4_readLevel_83 : decode cX4_readLevel 83 = .ok (.ineg, 1) := by decide +kernel
theorem dX4_readLevel_84 : decode cX4_readLevel 84 = .ok (.invokevirtual 109, 3) := by decide +kernel
theorem dX4_readLevel_87 : decode cX4_readLevel 87 = .ok (.iinc 4 1, 3) := by decide +kernel
theorem dX4_readLevel_90 : decode cX4_readLevel 90 = .ok (.goto (-57), 3) := by decide +kernel
theorem dX4_readLevel_93 : decode cX4_readLevel 93 = .ok (.iload_n 2, 1) := by decide +kernel
theorem dX4_readLevel_94 : decode cX4_readLevel 94 = .ok (.ireturn, 1) := by decide +kernel
theorem dX4_levelOf_0 : decode cX4_levelOf 0 = .ok (.iload_n 0, 1) := by decide +kernel
theorem dX4_levelOf_1 : decode cX4_levelOf 1 = .ok (.lookupswitch 93 #[(38, 85), (42, 91), (43, 89), (45, 89), (47, 91), (60, 87), (61, 87), (62, 87), (124, 83)], 83) := by decide +kernel
theorem dX4_levelOf_84 : decode cX4_levelOf 84 = .ok (.iconst 0, 1) := by decide +kernel
theorem dX4_levelOf_85 : decode cX4_levelOf 85 = .ok (.ireturn, 1) := by decide +kernel
theorem dX4_levelOf_86 : decode cX4_levelOf 86 = .ok (.iconst 1, 1) := by decide +kernel
theorem dX4_levelOf_87 : decode cX4_levelOf 87 = .ok (.ireturn, 1) := by decide +kernel
theorem dX4_levelOf_88 : decode cX4_levelOf 88 = .ok (.iconst 2, 1) := by decide +kernel
theorem dX4_levelOf_89 : decode cX4_levelOf 89 = .ok (.ireturn, 1) := by decide +kernel
theorem dX4_levelOf_90 : decode cX4_levelOf 90 = .ok (.iconst 3, 1) := by decide +kernel
theorem dX4_levelOf_91 : decode cX4_levelOf 91 = .ok (.ireturn, 1) := by decide +kernel
theorem dX4_levelOf_92 : decode cX4_levelOf 92 = .ok (.iconst 4, 1) := by decide +kernel
theorem dX4_levelOf_93 : decode cX4_levelOf 93 = .ok (.ireturn, 1) := by decide +kernel
theorem dX4_levelOf_94 : decode cX4_levelOf 94 = .ok (.ldc 95, 2) := by decide +kernel
theorem dX4_levelOf_96 : decode cX4_levelOf 96 = .ok (.ireturn, 1) := by decide +kernel
theorem dX4_readPiece_0 : decode cX4_readPiece 0 = .ok (.aload_n 0, 1) := by decide +kernel
theorem dX4_readPiece_1 : decode cX4_readPiece 1 = .ok (.getfield 25, 3) := by decide +kernel
theorem dX4_readPiece_4 : decode cX4_readPiece 4 = .ok (.iconst 3, 1) := by decide +kernel
theorem dX4_readPiece_5 : decode cX4_readPiece 5 = .ok (.if_icmp .ne 41, 3) := by decide +kernel
theorem dX4_readPiece_8 : decode cX4_readPiece 8 = .ok (.aload_n 0, 1) := by decide +kernel
theorem dX4_readPiece_9 : decode cX4_readPiece 9 = .ok (.getfield 69, 3) := by decide +kernel
theorem dX4_readPiece_12 : decode cX4_readPiece 12 = .ok (.bipush 33, 2) := by decide +kernel
theorem dX4_readPiece_14 : decode cX4_readPiece 14 = .ok (.if_icmp .ne 10, 3) := by decide +kernel
theorem dX4_readPiece_17 : decode cX4_readPiece 17 = .ok (.aload_n 0, 1) := by decide +kernel
theorem dX4_readPiece_18 : decode cX4_readPiece 18 = .ok (.invokevirtual 113, 3) := by decide +kernel
theorem dX4_readPiece_21 : decode cX4_readPiece 21 = .ok (.goto 24, 3) := by decide +kernel
theorem dX4_readPiece_24 : decode cX4_readPiece 24 = .ok (.aload_n 0, 1) := by decide +kernel
theorem dX4_readPiece_25 : decode cX4_readPiece 25 = .ok (.getfield 69, 3) := by decide +kernel
theorem dX4_readPiece_28 : decode cX4_readPiece 28 = .ok (.bipush 40, 2) := by decide +kernel
theorem dX4_readPiece_30 : decode cX4_readPiece 30 = .ok (.if_icmp .ne 14, 3) := by decide +kernel
theorem dX4_readPiece_33 : decode cX4_readPiece 33 = .ok (.aload_n 0, 1) := by decide +kernel
theorem dX4_readPiece_34 : decode cX4_readPiece 34 = .ok (.invokevirtual 116, 3) := by decide +kernel
theorem dX4_readPiece_37 : decode cX4_readPiece 37 = .ok (.ifCond .eq 7, 3) := by decide +kernel
theorem dX4_readPiece_40 : decode cX4_readPiece 40 = .ok (.iconst 1, 1) := by decide +kernel
theorem dX4_readPiece_41 : decode cX4_readPiece 41 = .ok (.goto 4, 3) := by decide +kernel
theorem dX4_readPiece_44 : decode cX4_readPiece 44 = .ok (.iconst 0, 1) := by decide +kernel
theorem dX4_readPiece_45 : decode cX4_readPiece 45 = .ok (.ireturn, 1) := by decide +kernel
theorem dX4_readPiece_46 : decode cX4_readPiece 46 = .ok (.aload_n 0, 1) := by decide +kernel
theorem dX4_readPiece_47 : decode cX4_readPiece 47 = .ok (.getfield 25, 3) := by decide +kernel
theorem dX4_readPiece_50 : decode cX4_readPiece 50 = .ok (.iconst 1, 1) := by decide +kernel
theorem dX4_readPiece_51 : decode cX4_readPiece 51 = .ok (.if_icmp .ne 14, 3) := by decide +kernel
theorem dX4_readPiece_54 : decode cX4_readPiece 54 = .ok (.aload_n 0, 1) := by decide +kernel
theorem dX4_readPiece_55 : decode cX4_readPiece 55 = .ok (.aload_n 0, 1) := by decide +kernel
theorem dX4_readPiece_56 : decode cX4_readPiece 56 = .ok (.getfield 69, 3) := by decide +kernel
theorem dX4_readPiece_59 : decode cX4_readPiece 59 = .ok (.invokevirtual 109, 3) := by decide +kernel
theorem dX4_readPiece_62 : decode cX4_readPiece 62 = .ok (.goto 57, 3) := by decide +kernel
theorem dX4_readPiece_65 : decode cX4_readPiece 65 = .ok (.aload_n 0, 1) := by decide +kernel
theorem dX4_readPiece_66 : decode cX4_readPiece 66 = .ok (.ldc 119, 2) := by decide +kernel
theorem dX4_readPiece_68 : decode cX4_readPiece 68 = .ok (.invokevirtual 87, 3) := by decide +kernel
theorem dX4_readPiece_71 : decode cX4_readPiece 71 = .ok (.ifCond .ne 29, 3) := by decide +kernel
theorem dX4_readPiece_74 : decode cX4_readPiece 74 = .ok (.aload_n 0, 1) := by decide +kernel
theorem dX4_readPiece_75 : decode cX4_readPiece 75 = .ok (.ldc 121, 2) := by decide +kernel
theorem dX4_readPiece_77 : decode cX4_readPiece 77 = .ok (.invokevirtual 87, 3) := by decide +kernel
theorem dX4_readPiece_80 : decode cX4_readPiece 80 = .ok (.ifCond .ne 20, 3) := by decide +kernel
theorem dX4_readPiece_83 : decode cX4_readPiece 83 = .ok (.aload_n 0, 1) := by decide +kernel
theorem dX4_readPiece_84 : decode cX4_readPiece 84 = .ok (.getfield 96, 3) := by decide +kernel
theorem dX4_readPiece_87 : decode cX4_readPiece 87 = .ok (.iconst 1, 1) := by decide +kernel
theorem dX4_readPiece_88 : decode cX4_readPiece 88 = .ok (.if_icmp .ne 29, 3) := by decide +kernel
theorem dX4_readPiece_91 : decode cX4_readPiece 91 = .ok (.aload_n 0, 1) := by decide +kernel
theorem dX4_readPiece_92 : decode cX4_readPiece 92 = .ok (.ldc 123, 2) := by decide +kernel
theorem dX4_readPiece_94 : decode cX4_readPiece 94 = .ok (.invokevirtual 87, 3) := by decide +kernel
theorem dX4_readPiece_97 : decode cX4_readPiece 97 = .ok (.ifCond .eq 20, 3) := by decide +kernel
theorem dX4_readPiece_100 : decode cX4_readPiece 100 = .ok (.aload_n 0, 1) := by decide +kernel
theorem dX4_readPiece_101 : decode cX4_readPiece 101 = .ok (.aload_n 0, 1) := by decide +kernel
theorem dX4_readPiece_102 : decode cX4_readPiece 102 = .ok (.getfield 9, 3) := by decide +kernel
theorem dX4_readPiece_105 : decode cX4_readPiece 105 = .ok (.aload_n 0, 1) := by decide +kernel
theorem dX4_readPiece_106 : decode cX4_readPiece 106 = .ok (.getfield 54, 3) := by decide +kernel
theorem dX4_readPiece_109 : decode cX4_readPiece 109 = .ok (.iaload, 1) := by decide +kernel
theorem dX4_readPiece_110 : decode cX4_readPiece 110 = .ok (.ineg, 1) := by decide +kernel
theorem dX4_readPiece_111 : decode cX4_readPiece 111 = .ok (.invokevirtual 109, 3) := by decide +kernel
theorem dX4_readPiece_114 : decode cX4_readPiece 114 = .ok (.goto 5, 3) := by decide +kernel
theorem dX4_readPiece_117 : decode cX4_readPiece 117 = .ok (.iconst 0, 1) := by decide +kernel
theorem dX4_readPiece_118 : decode cX4_readPiece 118 = .ok (.ireturn, 1) := by decide +kernel
theorem dX4_readPiece_119 : decode cX4_readPiece 119 = .ok (.aload_n 0, 1) := by decide +kernel
theorem dX4_readPiece_120 : decode cX4_readPiece 120 = .ok (.dup, 1) := by decide +kernel
theorem dX4_readPiece_121 : decode cX4_readPiece 121 = .ok (.getfield 28, 3) := by decide +kernel
theorem dX4_readPiece_124 : decode cX4_readPiece 124 = .ok (.iconst 1, 1) := by decide +kernel
theorem dX4_readPiece_125 : decode cX4_readPiece 125 = .ok (.iadd, 1) := by decide +kernel
theorem dX4_readPiece_126 : decode cX4_readPiece 126 = .ok (.putfield 28, 3) := by decide +kernel
theorem dX4_readPiece_129 : decode cX4_readPiece 129 = .ok (.aload_n 0, 1) := by decide +kernel
theorem dX4_readPiece_130 : decode cX4_readPiece 130 = .ok (.invokevirtual 40, 3) := by decide +kernel
theorem dX4_readPiece_133 : decode cX4_readPiece 133 = .ok (.iconst 1, 1) := by decide +kernel
theorem dX4_readPiece_134 : decode cX4_readPiece 134 = .ok (.ireturn, 1) := by decide +kernel
theorem dX4_readNot_0 : decode cX4_readNot 0 = .ok (.aload_n 0, 1) := by decide +kernel
theorem dX4_readNot_1 : decode cX4_readNot 1 = .ok (.getfield 37, 3) := by decide +kernel
theorem dX4_readNot_4 : decode cX4_readNot 4 = .ok (.bipush 8, 2) := by decide +kernel
theorem dX4_readNot_6 : decode cX4_readNot 6 = .ok (.if_icmp .lt 5, 3) := by decide +kernel
theorem dX4_readNot_9 : decode cX4_readNot 9 = .ok (.iconst 0, 1) := by decide +kernel
theorem dX4_readNot_10 : decode cX4_readNot 10 = .ok (.ireturn, 1) := by decide +kernel
theorem dX4_readNot_11 : decode cX4_readNot 11 = .ok (.aload_n 0, 1) := by decide +kernel
theorem dX4_readNot_12 : decode cX4_readNot 12 = .ok (.dup, 1) := by decide +kernel
theorem dX4_readNot_13 : decode cX4_readNot 13 = .ok (.getfield 37, 3) := by decide +kernel
theorem dX4_readNot_16 : decode cX4_readNot 16 = .ok (.iconst 1, 1) := by decide +kernel
theorem dX4_readNot_17 : decode cX4_readNot 17 = .ok (.iadd, 1) := by decide +kernel
theorem dX4_readNot_18 : decode cX4_readNot 18 = .ok (.putfield 37, 3) := by decide +kernel
theorem dX4_readNot_21 : decode cX4_readNot 21 = .ok (.aload_n 0, 1) := by decide +kernel
theorem dX4_readNot_22 : decode cX4_readNot 22 = .ok (.invokevirtual 40, 3) := by decide +kernel
theorem dX4_readNot_25 : decode cX4_readNot 25 = .ok (.aload_n 0, 1) := by decide +kernel
theorem dX4_readNot_26 : decode cX4_readNot 26 = .ok (.invokevirtual 102, 3) := by decide +kernel
theorem dX4_readNot_29 : decode cX4_readNot 29 = .ok (.istore_n 1, 1) := by decide +kernel
theorem dX4_readNot_30 : decode cX4_readNot 30 = .ok (.aload_n 0, 1) := by decide +kernel
theorem dX4_readNot_31 : decode cX4_readNot 31 = .ok (.dup, 1) := by decide +kernel
theorem dX4_readNot_32 : decode cX4_readNot 32 = .ok (.getfield 37, 3) := by decide +kernel
theorem dX4_readNot_35 : decode cX4_readNot 35 = .ok (.iconst 1, 1) := by decide +kernel
theorem dX4_readNot_36 : decode cX4_readNot 36 = .ok (.isub, 1) := by decide +kernel
theorem dX4_readNot_37 : decode cX4_readNot 37 = .ok (.putfield 37, 3) := by decide +kernel
theorem dX4_readNot_40 : decode cX4_readNot 40 = .ok (.aload_n 0, 1) := by decide +kernel
theorem dX4_readNot_41 : decode cX4_readNot 41 = .ok (.bipush (-33), 2) := by decide +kernel
theorem dX4_readNot_43 : decode cX4_readNot 43 = .ok (.invokevirtual 109, 3) := by decide +kernel
theorem dX4_readNot_46 : decode cX4_readNot 46 = .ok (.iload_n 1, 1) := by decide +kernel
theorem dX4_readNot_47 : decode cX4_readNot 47 = .ok (.ireturn, 1) := by decide +kernel
theorem dX4_readBrackets_0 : decode cX4_readBrackets 0 = .ok (.aload_n 0, 1) := by decide +kernel
theorem dX4_readBrackets_1 : decode cX4_readBrackets 1 = .ok (.getfield 34, 3) := by decide +kernel
theorem dX4_readBrackets_4 : decode cX4_readBrackets 4 = .ok (.bipush 8, 2) := by decide +kernel
theorem dX4_readBrackets_6 : decode cX4_readBrackets 6 = .ok (.if_icmp .lt 5, 3) := by decide +kernel
theorem dX4_readBrackets_9 : decode cX4_readBrackets 9 = .ok (.iconst 0, 1) := by decide +kernel
theorem dX4_readBrackets_10 : decode cX4_readBrackets 10 = .ok (.ireturn, 1) := by decide +kernel
theorem dX4_readBrackets_11 : decode cX4_readBrackets 11 = .ok (.aload_n 0, 1) := by decide +kernel
theorem dX4_readBrackets_12 : decode cX4_readBrackets 12 = .ok (.dup, 1) := by decide +kernel
theorem dX4_readBrackets_13 : decode cX4_readBrackets 13 = .ok (.getfield 34, 3) := by decide +kernel
theorem dX4_readBrackets_16 : decode cX4_readBrackets 16 = .ok (.iconst 1, 1) := by decide +kernel
theorem dX4_readBrackets_17 : decode cX4_readBrackets 17 = .ok (.iadd, 1) := by decide +kernel
theorem dX4_readBrackets_18 : decode cX4_readBrackets 18 = .ok (.putfield 34, 3) := by decide +kernel
theorem dX4_readBrackets_21 : decode cX4_readBrackets 21 = .ok (.aload_n 0, 1) := by decide +kernel
theorem dX4_readBrackets_22 : decode cX4_readBrackets 22 = .ok (.invokevirtual 40, 3) := by decide +kernel
theorem dX4_readBrackets_25 : decode cX4_readBrackets 25 = .ok (.aload_n 0, 1) := by decide +kernel
theorem dX4_readBrackets_26 : decode cX4_readBrackets 26 = .ok (.iconst 0, 1) := by decide +kernel
theorem dX4_readBrackets_27 : decode cX4_readBrackets 27 = .ok (.invokevirtual 50, 3) := by decide +kernel
theorem dX4_readBrackets_30 : decode cX4_readBrackets 30 = .ok (.ifCond .eq 24, 3) := by decide +kernel
theorem dX4_readBrackets_33 : decode cX4_readBrackets 33 = .ok (.aload_n 0, 1) := by decide +kernel
theorem dX4_readBrackets_34 : decode cX4_readBrackets 34 = .ok (.getfield 25, 3) := by decide +kernel
theorem dX4_readBrackets_37 : decode cX4_readBrackets 37 = .ok (.iconst 3, 1) := by decide +kernel
theorem dX4_readBrackets_38 : decode cX4_readBrackets 38 = .ok (.if_icmp .ne 16, 3) := by decide +kernel
theorem dX4_readBrackets_41 : decode cX4_readBrackets 41 = .ok (.aload_n 0, 1) := by decide +kernel
theorem dX4_readBrackets_42 : decode cX4_readBrackets 42 = .ok (.getfield 69, 3) := by decide +kernel
theorem dX4_readBrackets_45 : decode cX4_readBrackets 45 = .ok (.bipush 41, 2) := by decide +kernel
theorem dX4_readBrackets_47 : decode cX4_readBrackets 47 = .ok (.if_icmp .ne 7, 3) := by decide +kernel
theorem dX4_readBrackets_50 : decode cX4_readBrackets 50 = .ok (.iconst 1, 1) := by decide +kernel
theorem dX4_readBrackets_51 : decode cX4_readBrackets 51 = .ok (.goto 4, 3) := by decide +kernel
theorem dX4_readBrackets_54 : decode cX4_readBrackets 54 = .ok (.iconst 0, 1) := by decide +kernel
theorem dX4_readBrackets_55 : decode cX4_readBrackets 55 = .ok (.istore_n 1, 1) := by decide +kernel
theorem dX4_readBrackets_56 : decode cX4_readBrackets 56 = .ok (.aload_n 0, 1) := by decide +kernel
theorem dX4_readBrackets_57 : decode cX4_readBrackets 57 = .ok (.dup, 1) := by decide +kernel
theorem dX4_readBrackets_58 : decode cX4_readBrackets 58 = .ok (.getfield 34, 3) := by decide +kernel
theorem dX4_readBrackets_61 : decode cX4_readBrackets 61 = .ok (.iconst 1, 1) := by decide +kernel
theorem dX4_readBrackets_62 : decode cX4_readBrackets 62 = .ok (.isub, 1) := by decide +kernel
theorem dX4_readBrackets_63 : decode cX4_readBrackets 63 = .ok (.putfield 34, 3) := by decide +kernel
theorem dX4_readBrackets_66 : decode cX4_readBrackets 66 = .ok (.iload_n 1, 1) := by decide +kernel
theorem dX4_readBrackets_67 : decode cX4_readBrackets 67 = .ok (.ifCond .eq 7, 3) := by decide +kernel
theorem dX4_readBrackets_70 : decode cX4_readBrackets 70 = .ok (.aload_n 0, 1) := by decide +kernel
theorem dX4_readBrackets_71 : decode cX4_readBrackets 71 = .ok (.invokevirtual 40, 3) := by decide +kernel
theorem dX4_readBrackets_74 : decode cX4_readBrackets 74 = .ok (.iload_n 1, 1) := by decide +kernel
theorem dX4_readBrackets_75 : decode cX4_readBrackets 75 = .ok (.ireturn, 1) := by decide +kernel
theorem dX4_emit_0 : decode cX4_emit 0 = .ok (.aload_n 0, 1) := by decide +kernel
theorem dX4_emit_1 : decode cX4_emit 1 = .ok (.getfield 31, 3) := by decide +kernel
theorem dX4_emit_4 : decode cX4_emit 4 = .ok (.bipush 96, 2) := by decide +kernel
theorem dX4_emit_6 : decode cX4_emit 6 = .ok (.if_icmp .ge 20, 3) := by decide +kernel
theorem dX4_emit_9 : decode cX4_emit 9 = .ok (.aload_n 0, 1) := by decide +kernel
theorem dX4_emit_10 : decode cX4_emit 10 = .ok (.getfield 19, 3) := by decide +kernel
theorem dX4_emit_13 : decode cX4_emit 13 = .ok (.aload_n 0, 1) := by decide +kernel
theorem dX4_emit_14 : decode cX4_emit 14 = .ok (.dup, 1) := by decide +kernel
theorem dX4_emit_15 : decode cX4_emit 15 = .ok (.getfield 31, 3) := by decide +kernel
theorem dX4_emit_18 : decode cX4_emit 18 = .ok (.dup_x1, 1) := by decide +kernel
theorem dX4_emit_19 : decode cX4_emit 19 = .ok (.iconst 1, 1) := by decide +kernel
theorem dX4_emit_20 : decode cX4_emit 20 = .ok (.iadd, 1) := by decide +kernel
theorem dX4_emit_21 : decode cX4_emit 21 = .ok (.putfield 31, 3) := by decide +kernel
theorem dX4_emit_24 : decode cX4_emit 24 = .ok (.iload_n 1, 1) := by decide +kernel
theorem dX4_emit_25 : decode cX4_emit 25 = .ok (.iastore, 1) := by decide +kernel
theorem dX4_emit_26 : decode cX4_emit 26 = .ok (.return_, 1) := by decide +kernel
theorem dX5_init_0 : decode cX5_init 0 = .ok (.aload_n 0, 1) := by decide +kernel
theorem dX5_init_1 : decode cX5_init 1 = .ok (.invokespecial 3, 3) := by decide +kernel
theorem dX5_init_4 : decode cX5_init 4 = .ok (.aload_n 0, 1) := by decide +kernel
theorem dX5_init_5 : decode cX5_init 5 = .ok (.bipush 24, 2) := by decide +kernel
theorem dX5_init_7 : decode cX5_init 7 = .ok (.newarray .int, 2) := by decide +kernel
theorem dX5_init_9 : decode cX5_init 9 = .ok (.putfield 9, 3) := by decide +kernel
theorem dX5_init_12 : decode cX5_init 12 = .ok (.aload_n 0, 1) := by decide +kernel
theorem dX5_init_13 : decode cX5_init 13 = .ok (.bipush 24, 2) := by decide +kernel
theorem dX5_init_15 : decode cX5_init 15 = .ok (.newarray .int, 2) := by decide +kernel
theorem dX5_init_17 : decode cX5_init 17 = .ok (.putfield 15, 3) := by decide +kernel
theorem dX5_init_20 : decode cX5_init 20 = .ok (.aload_n 0, 1) := by decide +kernel
theorem dX5_init_21 : decode cX5_init 21 = .ok (.bipush 9, 2) := by decide +kernel
theorem dX5_init_23 : decode cX5_init 23 = .ok (.newarray .int, 2) := by decide +kernel
theorem dX5_init_25 : decode cX5_init 25 = .ok (.putfield 18, 3) := by decide +kernel
theorem dX5_init_28 : decode cX5_init 28 = .ok (.aload_n 0, 1) := by decide +kernel
theorem dX5_init_29 : decode cX5_init 29 = .ok (.bipush 9, 2) := by decide +kernel
theorem dX5_init_31 : decode cX5_init 31 = .ok (.newarray .int, 2) := by decide +kernel
theorem dX5_init_33 : decode cX5_init 33 = .ok (.putfield 21, 3) := by decide +kernel
theorem dX5_init_36 : decode cX5_init 36 = .ok (.return_, 1) := by decide +kernel
theorem dX5_isFixOf_0 : decode cX5_isFixOf 0 = .ok (.aload_n 0, 1) := by decide +kernel
theorem dX5_isFixOf_1 : decode cX5_isFixOf 1 = .ok (.getfield 24, 3) := by decide +kernel
theorem dX5_isFixOf_4 : decode cX5_isFixOf 4 = .ok (.iconst 3, 1) := by decide +kernel
theorem dX5_isFixOf_5 : decode cX5_isFixOf 5 = .ok (.invokestatic 30, 3) := by decide +kernel
theorem dX5_isFixOf_8 : decode cX5_isFixOf 8 = .ok (.ifCond .eq 15, 3) := by decide +kernel
theorem dX5_isFixOf_11 : decode cX5_isFixOf 11 = .ok (.aload_n 0, 1) := by decide +kernel
theorem dX5_isFixOf_12 : decode cX5_isFixOf 12 = .ok (.getfield 34, 3) := by decide +kernel
theorem dX5_isFixOf_15 : decode cX5_isFixOf 15 = .ok (.iload_n 1, 1) := by decide +kernel
theorem dX5_isFixOf_16 : decode cX5_isFixOf 16 = .ok (.if_icmp .ne 7, 3) := by decide +kernel
theorem dX5_isFixOf_19 : decode cX5_isFixOf 19 = .ok (.iconst 1, 1) := by decide +kernel
theorem dX5_isFixOf_20 : decode cX5_isFixOf 20 = .ok (.goto 4, 3) := by decide +kernel
theorem dX5_isFixOf_23 : decode cX5_isFixOf 23 = .ok (.iconst 0, 1) := by decide +kernel
theorem dX5_isFixOf_24 : decode cX5_isFixOf 24 = .ok (.ireturn, 1) := by decide +kernel
theorem dX5_prepare_0 : decode cX5_prepare 0 = .ok (.aload_n 0, 1) := by decide +kernel
theorem dX5_prepare_1 : decode cX5_prepare 1 = .ok (.iconst 0, 1) := by decide +kernel
theorem dX5_prepare_2 : decode cX5_prepare 2 = .ok (.putfield 37, 3) := by decide +kernel
theorem dX5_prepare_5 : decode cX5_prepare 5 = .ok (.iconst 0, 1) := by decide +kernel
theorem dX5_prepare_6 : decode cX5_prepare 6 = .ok (.istore_n 3, 1) := by decide +kernel
theorem dX5_prepare_7 : decode cX5_prepare 7 = .ok (.iload_n 3, 1) := by decide +kernel
theorem dX5_prepare_8 : decode cX5_prepare 8 = .ok (.aload_n 1, 1) := by decide +kernel
theorem dX5_prepare_9 : decode cX5_prepare 9 = .ok (.getfield 40, 3) := by decide +kernel
theorem dX5_prepare_12 : decode cX5_prepare 12 = .ok (.if_icmp .ge 78, 3) := by decide +kernel
theorem dX5_prepare_15 : decode cX5_prepare 15 = .ok (.aload_n 1, 1) := by decide +kernel
theorem dX5_prepare_16 : decode cX5_prepare 16 = .ok (.getfield 45, 3) := by decide +kernel
theorem dX5_prepare_19 : decode cX5_prepare 19 = .ok (.iload_n 3, 1) := by decide +kernel
theorem dX5_prepare_20 : decode cX5_prepare 20 = .ok (.aaload, 1) := by decide +kernel
theorem dX5_prepare_21 : decode cX5_prepare 21 = .ok (.astore 4, 2) := by decide +kernel
theorem dX5_prepare_23 : decode cX5_prepare 23 = .ok (.aload_n 0, 1) := by decide +kernel
theorem dX5_prepare_24 : decode cX5_prepare 24 = .ok (.getfield 9, 3) := by decide +kernel
theorem dX5_prepare_27 : decode cX5_prepare 27 = .ok (.iload_n 3, 1) := by decide +kernel
theorem dX5_prepare_28 : decode cX5_prepare 28 = .ok (.aload_n 1, 1) := by decide +kernel
theorem dX5_prepare_29 : decode cX5_prepare 29 = .ok (.aload 4, 2) := by decide +kernel
theorem dX5_prepare_31 : decode cX5_prepare 31 = .ok (.iconst 2, 1) := by decide +kernel
theorem dX5_prepare_32 : decode cX5_prepare 32 = .ok (.iconst 0, 1) := by decide +kernel
theorem dX5_prepare_33 : decode cX5_prepare 33 = .ok (.invokevirtual 49, 3) := by decide +kernel
theorem dX5_prepare_36 : decode cX5_prepare 36 = .ok (.iastore, 1) := by decide +kernel
theorem dX5_prepare_37 : decode cX5_prepare 37 = .ok (.aload_n 0, 1) := by decide +kernel
theorem dX5_prepare_38 : decode cX5_prepare 38 = .ok (.getfield 15, 3) := by decide +kernel
theorem dX5_prepare_41 : decode cX5_prepare 41 = .ok (.iload_n 3, 1) := by decide +kernel
theorem dX5_prepare_42 : decode cX5_prepare 42 = .ok (.aload_n 1, 1) := by decide +kernel
theorem dX5_prepare_43 : decode cX5_prepare 43 = .ok (.aload 4, 2) := by decide +kernel
theorem dX5_prepare_45 : decode cX5_prepare 45 = .ok (.invokevirtual 53, 3) := by decide +kernel
theorem dX5_prepare_48 : decode cX5_prepare 48 = .ok (.iastore, 1) := by decide +kernel
theorem dX5_prepare_49 : decode cX5_prepare 49 = .ok (.aload 4, 2) := by decide +kernel
theorem dX5_prepare_51 : decode cX5_prepare 51 = .ok (.getfield 57, 3) := by decide +kernel
theorem dX5_prepare_54 : decode cX5_prepare 54 = .ok (.ldc 60, 2) := by decide +kernel
theorem dX5_prepare_56 : decode cX5_prepare 56 = .ok (.if_icmp .eq 28, 3) := by decide +kernel
theorem dX5_prepare_59 : decode cX5_prepare 59 = .ok (.aload 4, 2) := by decide +kernel
theorem dX5_prepare_61 : decode cX5_prepare 61 = .ok (.iload_n 2, 1) := by decide +kernel
theorem dX5_prepare_62 : decode cX5_prepare 62 = .ok (.invokestatic 61, 3) := by decide +kernel
theorem dX5_prepare_65 : decode cX5_prepare 65 = .ok (.ifCond .eq 19, 3) := by decide +kernel
theorem dX5_prepare_68 : decode cX5_prepare 68 = .ok (.aload_n 0, 1) := by decide +kernel
theorem dX5_prepare_69 : decode cX5_prepare 69 = .ok (.dup, 1) := by decide +kernel
theorem dX5_prepare_70 : decode cX5_prepare 70 = .ok (.getfield 37, 3) := by decide +kernel
theorem dX5_prepare_73 : decode cX5_prepare 73 = .ok (.iconst 1, 1) := by decide +kernel
theorem dX5_prepare_74 : decode cX5_prepare 74 = .ok (.aload 4, 2) := by decide +kernel
theorem dX5_prepare_76 : decode cX5_prepare 76 = .ok (.getfield 57, 3) := by decide +kernel
theorem dX5_prepare_79 : decode cX5_prepare 79 = .ok (.ishl, 1) := by decide +kernel
theorem dX5_prepare_80 : decode cX5_prepare 80 = .ok (.ior, 1) := by decide +kernel
theorem dX5_prepare_81 : decode cX5_prepare 81 = .ok (.putfield 37, 3) := by decide +kernel
theorem dX5_prepare_84 : decode cX5_prepare 84 = .ok (.iinc 3 1, 3) := by decide +kernel
theorem dX5_prepare_87 : decode cX5_prepare 87 = .ok (.goto (-80), 3) := by decide +kernel
theorem dX5_prepare_90 : decode cX5_prepare 90 = .ok (.return_, 1) := by decide +kernel
theorem dX5_find_0 : decode cX5_find 0 = .ok (.aload_n 0, 1) := by decide +kernel
theorem dX5_find_1 : decode cX5_find 1 = .ok (.iconst 0, 1) := by decide +kernel
theorem dX5_find_2 : decode cX5_find 2 = .ok (.putfield 65, 3) := by decide +kernel
theorem dX5_find_5 : decode cX5_find 5 = .ok (.aload_n 0, 1) := by decide +kernel
theorem dX5_find_6 : decode cX5_find 6 = .ok (.ldc 60, 2) := by decide +kernel
theorem dX5_find_8 : decode cX5_find 8 = .ok (.putfield 68, 3) := by decide +kernel
theorem dX5_find_11 : decode cX5_find 11 = .ok (.aload_n 0, 1) := by decide +kernel
theorem dX5_find_12 : decode cX5_find 12 = .ok (.ldc 60, 2) := by decide +kernel
theorem dX5_find_14 : decode cX5_find 14 = .ok (.putfield 71, 3) := by decide +kernel
theorem dX5_find_17 : decode cX5_find 17 = .ok (.bipush (-50), 2) := by decide +kernel
theorem dX5_find_19 : decode cX5_find 19 = .ok (.istore 4, 2) := by decide +kernel
theorem dX5_find_21 : decode cX5_find 21 = .ok (.iload 4, 2) := by decide +kernel
theorem dX5_find_23 : decode cX5_find 23 = .ok (.bipush 50, 2) := by decide +kernel
theorem dX5_find_25 : decode cX5_find 25 = .ok (.if_icmp .gt 59, 3) := by decide +kernel
theorem dX5_find_28 : decode cX5_find 28 = .ok (.aload_n 0, 1) := by decide +kernel
theorem dX5_find_29 : decode cX5_find 29 = .ok (.aload_n 1, 1) := by decide +kernel
theorem dX5_find_30 : decode cX5_find 30 = .ok (.iload_n 2, 1) := by decide +kernel
theorem dX5_find_31 : decode cX5_find 31 = .ok (.iload_n 3, 1) := by decide +kernel
theorem dX5_find_32 : decode cX5_find 32 = .ok (.iload 4, 2) := by decide +kernel
theorem dX5_find_34 : decode cX5_find 34 = .ok (.invokevirtual 74, 3) := by decide +kernel
theorem dX5_find_37 : decode cX5_find 37 = .ok (.ifCond .eq 41, 3) := by decide +kernel
theorem dX5_find_40 : decode cX5_find 40 = .ok (.aload_n 0, 1) := by decide +kernel
theorem dX5_find_41 : decode cX5_find 41 = .ok (.dup, 1) := by decide +kernel
theorem dX5_find_42 : decode cX5_find 42 = .ok (.getfield 65, 3) := by decide +kernel
theorem dX5_find_45 : decode cX5_find 45 = .ok (.iconst 1, 1) := by decide +kernel
theorem dX5_find_46 : decode cX5_find 46 = .ok (.iadd, 1) := by decide +kernel
theorem dX5_find_47 : decode cX5_find 47 = .ok (.putfield 65, 3) := by decide +kernel
theorem dX5_find_50 : decode cX5_find 50 = .ok (.aload_n 0, 1) := by decide +kernel
theorem dX5_find_51 : decode cX5_find 51 = .ok (.aload_n 0, 1) := by decide +kernel
theorem dX5_find_52 : decode cX5_find 52 = .ok (.getfield 68, 3) := by decide +kernel
theorem dX5_find_55 : decode cX5_find 55 = .ok (.ldc 60, 2) := by decide +kernel
theorem dX5_find_57 : decode cX5_find 57 = .ok (.if_icmp .ne 8, 3) := by decide +kernel
theorem dX5_find_60 : decode cX5_find 60 = .ok (.iload 4, 2) := by decide +kernel
theorem dX5_find_62 : decode cX5_find 62 = .ok (.goto 7, 3) := by decide +kernel
theorem dX5_find_65 : decode cX5_find 65 = .ok (.aload_n 0, 1) := by decide +kernel
theorem dX5_find_66 : decode cX5_find 66 = .ok (.getfield 68, 3) := by decide +kernel
theorem dX5_find_69 : decode cX5_find 69 = .ok (.putfield 68, 3) := by decide +kernel
theorem dX5_find_72 : decode cX5_find 72 = .ok (.aload_n 0, 1) := by decide +kernel
theorem dX5_find_73 : decode cX5_find 73 = .ok (.iload 4, 2) := by decide +kernel
theorem dX5_find_75 : decode cX5_find 75 = .ok (.putfield 71, 3) := by decide +kernel
theorem dX5_find_78 : decode cX5_find 78 = .ok (.iinc 4 1, 3) := by decide +kernel
theorem dX5_find_81 : decode cX5_find 81 = .ok (.goto (-60), 3) := by decide +kernel
theorem dX5_find_84 : decode cX5_find 84 = .ok (.return_, 1) := by decide +kernel
theorem dX5_allHold_0 : decode cX5_allHold 0 = .ok (.iconst 0, 1) := by decide +kernel
theorem dX5_allHold_1 : decode cX5_allHold 1 = .ok (.istore 5, 2) := by decide +kernel
theorem dX5_allHold_3 : decode cX5_allHold 3 = .ok (.iload 5, 2) := by decide +kernel
theorem dX5_allHold_5 : decode cX5_allHold 5 = .ok (.bipush 9, 2) := by decide +kernel
theorem dX5_allHold_7 : decode cX5_allHold 7 = .ok (.if_icmp .ge 27, 3) := by decide +kernel
theorem dX5_allHold_10 : decode cX5_allHold 10 = .ok (.aload_n 0, 1) := by decide +kernel
theorem dX5_allHold_11 : decode cX5_allHold 11 = .ok (.getfield 18, 3) := by decide +kernel
theorem dX5_allHold_14 : decode cX5_allHold 14 = .ok (.iload 5, 2) := by decide +kernel
theorem dX5_allHold_16 : decode cX5_allHold 16 = .ok (.ldc 78, 2) := by decide +kernel
theorem dX5_allHold_18 : decode cX5_allHold 18 = .ok (.iastore, 1) := by decide +kernel
theorem dX5_allHold_19 : decode cX5_allHold 19 = .ok (.aload_n 0, 1) := by decide +kernel
theorem dX5_allHold_20 : decode cX5_allHold 20 = .ok (.getfield 21, 3) := by decide +kernel
theorem dX5_allHold_23 : decode cX5_allHold 23 = .ok (.iload 5, 2) := by decide +kernel
theorem dX5_allHold_25 : decode cX5_allHold 25 = .ok (.ldc 79, 2) := by decide +kernel
theorem dX5_allHold_27 : decode cX5_allHold 27 = .ok (.iastore, 1) := by decide +kernel
theorem dX5_allHold_28 : decode cX5_allHold 28 = .ok (.iinc 5 1, 3) := by decide +kernel
theorem dX5_allHold_31 : decode cX5_allHold 31 = .ok (.goto (-28), 3) := by decide +kernel
theorem dX5_allHold_34 : decode cX5_allHold 34 = .ok (.iconst 0, 1) := by decide +kernel
theorem dX5_allHold_35 : decode cX5_allHold 35 = .ok (.istore 5, 2) := by decide +kernel
theorem dX5_allHold_37 : decode cX5_allHold 37 = .ok (.iload 5, 2) := by decide +kernel
theorem dX5_allHold_39 : decode cX5_allHold 39 = .ok (.aload_n 1, 1) := by decide +kernel
theorem dX5_allHold_40 : decode cX5_allHold 40 = .ok (.getfield 40, 3) := by decide +kernel
theorem dX5_allHold_43 : decode cX5_allHold 43 = .ok (.if_icmp .ge 146, 3) := by decide +kernel
theorem dX5_allHold_46 : decode cX5_allHold 46 = .ok (.aload_n 1, 1) := by decide +kernel
theorem dX5_allHold_47 : decode cX5_allHold 47 = .ok (.getfield 45, 3) := by decide +kernel
theorem dX5_allHold_50 : decode cX5_allHold 50 = .ok (.iload 5, 2) := by decide +kernel
theorem dX5_allHold_52 : decode cX5_allHold 52 = .ok (.aaload, 1) := by decide +kernel
theorem dX5_allHold_53 : decode cX5_allHold 53 = .ok (.astore 6, 2) := by decide +kernel
theorem dX5_allHold_55 : decode cX5_allHold 55 = .ok (.aload 6, 2) := by decide +kernel
theorem dX5_allHold_57 : decode cX5_allHold 57 = .ok (.getfield 57, 3) := by decide +kernel
theorem dX5_allHold_60 : decode cX5_allHold 60 = .ok (.ldc 60, 2) := by decide +kernel
theorem dX5_allHold_62 : decode cX5_allHold 62 = .ok (.if_icmp .eq 121, 3) := by decide +kernel
theorem dX5_allHold_65 : decode cX5_allHold 65 = .ok (.aload 6, 2) := by decide +kernel
theorem dX5_allHold_67 : decode cX5_allHold 67 = .ok (.getfield 80, 3) := by decide +kernel
theorem dX5_allHold_70 : decode cX5_allHold 70 = .ok (.iload_n 3, 1) := by decide +kernel
theorem dX5_allHold_71 : decode cX5_allHold 71 = .ok (.if_icmp .lt 8, 3) := by decide +kernel
theorem dX5_allHold_74 : decode cX5_allHold 74 = .ok (.iload 4, 2) := by decide +kernel
theorem dX5_allHold_76 : decode cX5_allHold 76 = .ok (.goto 4, 3) := by decide +kernel
theorem dX5_allHold_79 : decode cX5_allHold 79 = .ok (.iconst 0, 1) := by decide +kernel
theorem dX5_allHold_80 : decode cX5_allHold 80 = .ok (.istore 7, 2) := by decide +kernel
theorem dX5_allHold_82 : decode cX5_allHold 82 = .ok (.aload 6, 2) := by decide +kernel
theorem dX5_allHold_84 : decode cX5_allHold 84 = .ok (.iload_n 2, 1) := by decide +kernel
theorem dX5_allHold_85 : decode cX5_allHold 85 = .ok (.invokestatic 61, 3) := by decide +kernel
theorem dX5_allHold_88 : decode cX5_allHold 88 = .ok (.ifCond .eq 24, 3) := by decide +kernel
theorem dX5_allHold_91 : decode cX5_allHold 91 = .ok (.aload 6, 2) := by decide +kernel
theorem dX5_allHold_93 : decode cX5_allHold 93 = .ok (.getfield 83, 3) := by decide +kernel
theorem dX5_allHold_96 : decode cX5_allHold 96 = .ok (.aload_n 0, 1) := by decide +kernel
theorem dX5_allHold_97 : decode cX5_allHold 97 = .ok (.getfield 9, 3) := by decide +kernel
theorem dX5_allHold_100 : decode cX5_allHold 100 = .ok (.iload 5, 2) := by decide +kernel
theorem dX5_allHold_102 : decode cX5_allHold 102 = .ok (.iaload, 1) := by decide +kernel
theorem dX5_allHold_103 : decode cX5_allHold 103 = .ok (.iload 7, 2) := by decide +kernel
theorem dX5_allHold_105 : decode cX5_allHold 105 = .ok (.invokestatic 86, 3) := by decide +kernel
theorem dX5_allHold_108 : decode cX5_allHold 108 = .ok (.iadd, 1) := by decide +kernel
theorem dX5_allHold_109 : decode cX5_allHold 109 = .ok (.goto 10, 3) := by decide +kernel
theorem dX5_allHold_112 : decode cX5_allHold 112 = .ok (.aload_n 0, 1) := by decide +kernel
theorem dX5_allHold_113 : decode cX5_allHold 113 = .ok (.getfield 15, 3) := by decide +kernel
theorem dX5_allHold_116 : decode cX5_allHold 116 = .ok (.iload 5, 2) := by decide +kernel
theorem dX5_allHold_118 : decode cX5_allHold 118 = .ok (.iaload, 1) := by decide +kernel
theorem dX5_allHold_119 : decode cX5_allHold 119 = .ok (.istore 8, 2) := by decide +kernel
theorem dX5_allHold_121 : decode cX5_allHold 121 = .ok (.aload_n 0, 1) := by decide +kernel
theorem dX5_allHold_122 : decode cX5_allHold 122 = .ok (.getfield 18, 3) := by decide +kernel
theorem dX5_allHold_125 : decode cX5_allHold 125 = .ok (.aload 6, 2) := by decide +kernel
theorem dX5_allHold_127 : decode cX5_allHold 127 = .ok (.getfield 57, 3) := by decide +kernel
theorem dX5_allHold_130 : decode cX5_allHold 130 = .ok (.aload_n 0, 1) := by decide +kernel
theorem dX5_allHold_131 : decode cX5_allHold 131 = .ok (.getfield 18, 3) := by decide +kernel
theorem dX5_allHold_134 : decode cX5_allHold 134 = .ok (.aload 6, 2) := by decide +kernel
theorem dX5_allHold_136 : decode cX5_allHold 136 = .ok (.getfield 57, 3) := by decide +kernel
theorem dX5_allHold_139 : decode cX5_allHold 139 = .ok (.iaload, 1) := by decide +kernel
theorem dX5_allHold_140 : decode cX5_allHold 140 = .ok (.iload 8, 2) := by decide +kernel
theorem dX5_allHold_142 : decode cX5_allHold 142 = .ok (.aload 6, 2) := by decide +kernel
theorem dX5_allHold_144 : decode cX5_allHold 144 = .ok (.invokevirtual 90, 3) := by decide +kernel
theorem dX5_allHold_147 : decode cX5_allHold 147 = .ok (.isub, 1) := by decide +kernel
theorem dX5_allHold_148 : decode cX5_allHold 148 = .ok (.invokestatic 94, 3) := by decide +kernel
theorem dX5_allHold_151 : decode cX5_allHold 151 = .ok (.iastore, 1) := by decide +kernel
theorem dX5_allHold_152 : decode cX5_allHold 152 = .ok (.aload_n 0, 1) := by decide +kernel
theorem dX5_allHold_153 : decode cX5_allHold 153 = .ok (.getfield 21, 3) := by decide +kernel
theorem dX5_allHold_156 : decode cX5_allHold 156 = .ok (.aload 6, 2) := by decide +kernel
theorem dX5_allHold_158 : decode cX5_allHold 158 = .ok (.getfield 57, 3) := by decide +kernel
theorem dX5_allHold_161 : decode cX5_allHold 161 = .ok (.aload_n 0, 1) := by decide +kernel
theorem dX5_allHold_162 : decode cX5_allHold 162 = .ok (.getfield 21, 3) := by decide +kernel
theorem dX5_allHold_165 : decode cX5_allHold 165 = .ok (.aload 6, 2) := by decide +kernel
theorem dX5_allHold_167 : decode cX5_allHold 167 = .ok (.getfield 57, 3) := by decide +kernel
theorem dX5_allHold_170 : decode cX5_allHold 170 = .ok (.iaload, 1) := by decide +kernel
theorem dX5_allHold_171 : decode cX5_allHold 171 = .ok (.iload 8, 2) := by decide +kernel
theorem dX5_allHold_173 : decode cX5_allHold 173 = .ok (.aload 6, 2) := by decide +kernel
theorem dX5_allHold_175 : decode cX5_allHold 175 = .ok (.invokevirtual 90, 3) := by decide +kernel
theorem dX5_allHold_178 : decode cX5_allHold 178 = .ok (.iadd, 1) := by decide +kernel
theorem dX5_allHold_179 : decode cX5_allHold 179 = .ok (.invokestatic 99, 3) := by decide +kernel
theorem dX5_allHold_182 : decode cX5_allHold 182 = .ok (.iastore, 1) := by decide +kernel
theorem dX5_allHold_183 : decode cX5_allHold 183 = .ok (.iinc 5 1, 3) := by decide +kernel
theorem dX5_allHold_186 : decode cX5_allHold 186 = .ok (.goto (-149), 3) := by decide +kernel
theorem dX5_allHold_189 : decode cX5_allHold 189 = .ok (.iconst 0, 1) := by decide +kernel
theorem dX5_allHold_190 : decode cX5_allHold 190 = .ok (.istore 5, 2) := by decide +kernel
theorem dX5_allHold_192 : decode cX5_allHold 192 = .ok (.iload 5, 2) := by decide +kernel
theorem dX5_allHold_194 : decode cX5_allHold 194 = .ok (.bipush 9, 2) := by decide +kernel
theorem dX5_allHold_196 : decode cX5_allHold 196 = .ok (.if_icmp .ge 40, 3) := by decide +kernel
theorem dX5_allHold_199 : decode cX5_allHold 199 = .ok (.aload_n 0, 1) := by decide +kernel
theorem dX5_allHold_200 : decode cX5_allHold 200 = .ok (.getfield 37, 3) := by decide +kernel
theorem dX5_allHold_203 : decode cX5_allHold 203 = .ok (.iconst 1, 1) := by decide +kernel
theorem dX5_allHold_204 : decode cX5_allHold 204 = .ok (.iload 5, 2) := by decide +kernel
theorem dX5_allHold_206 : decode cX5_allHold 206 = .ok (.ishl, 1) := by decide +kernel
theorem dX5_allHold_207 : decode cX5_allHold 207 = .ok (.iand, 1) := by decide +kernel
theorem dX5_allHold_208 : decode cX5_allHold 208 = .ok (.ifCond .eq 22, 3) := by decide +kernel
theorem dX5_allHold_211 : decode cX5_allHold 211 = .ok (.aload_n 0, 1) := by decide +kernel
theorem dX5_allHold_212 : decode cX5_allHold 212 = .ok (.getfield 18, 3) := by decide +kernel
theorem dX5_allHold_215 : decode cX5_allHold 215 = .ok (.iload 5, 2) := by decide +kernel
theorem dX5_allHold_217 : decode cX5_allHold 217 = .ok (.iaload, 1) := by decide +kernel
theorem dX5_allHold_218 : decode cX5_allHold 218 = .ok (.aload_n 0, 1) := by decide +kernel
theorem dX5_allHold_219 : decode cX5_allHold 219 = .ok (.getfield 21, 3) := by decide +kernel
theorem dX5_allHold_222 : decode cX5_allHold 222 = .ok (.iload 5, 2) := by decide +kernel
theorem dX5_allHold_224 : decode cX5_allHold 224 = .ok (.iaload, 1) := by decide +kernel
theorem dX5_allHold_225 : decode cX5_allHold 225 = .ok (.if_icmp .le 5, 3) := by decide +kernel
theorem dX5_allHold_228 : decode cX5_allHold 228 = .ok (.iconst 0, 1) := by decide +kernel
theorem dX5_allHold_229 : decode cX5_allHold 229 = .ok (.ireturn, 1) := by decide +kernel
theorem dX5_allHold_230 : decode cX5_allHold 230 = .ok (.iinc 5 1, 3) := by decide +kernel
theorem dX5_allHold_233 : decode cX5_allHold 233 = .ok (.goto (-41), 3) := by decide +kernel
theorem dX5_allHold_236 : decode cX5_allHold 236 = .ok (.iconst 1, 1) := by decide +kernel
theorem dX5_allHold_237 : decode cX5_allHold 237 = .ok (.ireturn, 1) := by decide +kernel
theorem dX6_init_0 : decode cX6_init 0 = .ok (.aload_n 0, 1) := by decide +kernel
theorem dX6_init_1 : decode cX6_init 1 = .ok (.invokespecial 3, 3) := by decide +kernel
theorem dX6_init_4 : decode cX6_init 4 = .ok (.aload_n 0, 1) := by decide +kernel
theorem dX6_init_5 : decode cX6_init 5 = .ok (.iconst (-1), 1) := by decide +kernel
theorem dX6_init_6 : decode cX6_init 6 = .ok (.putfield 9, 3) := by decide +kernel
theorem dX6_init_9 : decode cX6_init 9 = .ok (.aload_n 0, 1) := by decide +kernel
theorem dX6_init_10 : decode cX6_init 10 = .ok (.iconst 0, 1) := by decide +kernel
theorem dX6_init_11 : decode cX6_init 11 = .ok (.putfield 15, 3) := by decide +kernel
theorem dX6_init_14 : decode cX6_init 14 = .ok (.aload_n 0, 1) := by decide +kernel
theorem dX6_init_15 : decode cX6_init 15 = .ok (.bipush 24, 2) := by decide +kernel
theorem dX6_init_17 : decode cX6_init 17 = .ok (.newarray .int, 2) := by decide +kernel
theorem dX6_init_19 : decode cX6_init 19 = .ok (.putfield 18, 3) := by decide +kernel
theorem dX6_init_22 : decode cX6_init 22 = .ok (.return_, 1) := by decide +kernel
theorem dX6_isMissing_0 : decode cX6_isMissing 0 = .ok (.aload_n 0, 1) := by decide +kernel
theorem dX6_isMissing_1 : decode cX6_isMissing 1 = .ok (.getfield 9, 3) := by decide +kernel
theorem dX6_isMissing_4 : decode cX6_isMissing 4 = .ok (.iconst (-1), 1) := by decide +kernel
theorem dX6_isMissing_5 : decode cX6_isMissing 5 = .ok (.if_icmp .ne 7, 3) := by decide +kernel
theorem dX6_isMissing_8 : decode cX6_isMissing 8 = .ok (.iconst 1, 1) := by decide +kernel
theorem dX6_isMissing_9 : decode cX6_isMissing 9 = .ok (.goto 4, 3) := by decide +kernel
theorem dX6_isMissing_12 : decode cX6_isMissing 12 = .ok (.iconst 0, 1) := by decide +kernel
theorem dX6_isMissing_13 : decode cX6_isMissing 13 = .ok (.ireturn, 1) := by decide +kernel
theorem dX6_isFog_0 : decode cX6_isFog 0 = .ok (.aload_n 0, 1) := by decide +kernel
theorem dX6_isFog_1 : decode cX6_isFog 1 = .ok (.getfield 9, 3) := by decide +kernel
theorem dX6_isFog_4 : decode cX6_isFog 4 = .ok (.iconst 1, 1) := by decide +kernel
theorem dX6_isFog_5 : decode cX6_isFog 5 = .ok (.if_icmp .ne 13, 3) := by decide +kernel
theorem dX6_isFog_8 : decode cX6_isFog 8 = .ok (.iload_n 1, 1) := by decide +kernel
theorem dX6_isFog_9 : decode cX6_isFog 9 = .ok (.ldc 22, 2) := by decide +kernel
theorem dX6_isFog_11 : decode cX6_isFog 11 = .ok (.if_icmp .ne 7, 3) := by decide +kernel
theorem dX6_isFog_14 : decode cX6_isFog 14 = .ok (.iconst 1, 1) := by decide +kernel
theorem dX6_isFog_15 : decode cX6_isFog 15 = .ok (.goto 4, 3) := by decide +kernel
theorem dX6_isFog_18 : decode cX6_isFog 18 = .ok (.iconst 0, 1) := by decide +kernel
theorem dX6_isFog_19 : decode cX6_isFog 19 = .ok (.ireturn, 1) := by decide +kernel
theorem dX6_hasPlaces_0 : decode cX6_hasPlaces 0 = .ok (.iload_n 1, 1) := by decide +kernel
theorem dX6_hasPlaces_1 : decode cX6_hasPlaces 1 = .ok (.ifCond .lt 21, 3) := by decide +kernel
theorem dX6_hasPlaces_4 : decode cX6_hasPlaces 4 = .ok (.iload_n 2, 1) := by decide +kernel
theorem dX6_hasPlaces_5 : decode cX6_hasPlaces 5 = .ok (.ifCond .lt 17, 3) := by decide +kernel
theorem dX6_hasPlaces_8 : decode cX6_hasPlaces 8 = .ok (.iload_n 2, 1) := by decide +kernel
theorem dX6_hasPlaces_9 : decode cX6_hasPlaces 9 = .ok (.aload_n 0, 1) := by decide +kernel
theorem dX6_hasPlaces_10 : decode cX6_hasPlaces 10 = .ok (.getfield 15, 3) := by decide +kernel
theorem dX6_hasPlaces_13 : decode cX6_hasPlaces 13 = .ok (.iload_n 1, 1) := by decide +kernel
theorem dX6_hasPlaces_14 : decode cX6_hasPlaces 14 = .ok (.isub, 1) := by decide +kernel
theorem dX6_hasPlaces_15 : decode cX6_hasPlaces 15 = .ok (.if_icmp .gt 7, 3) := by decide +kernel
theorem dX6_hasPlaces_18 : decode cX6_hasPlaces 18 = .ok (.iconst 1, 1) := by decide +kernel
theorem dX6_hasPlaces_19 : decode cX6_hasPlaces 19 = .ok (.goto 4, 3) := by decide +kernel
theorem dX6_hasPlaces_22 : decode cX6_hasPlaces 22 = .ok (.iconst 0, 1) := by decide +kernel
theorem dX6_hasPlaces_23 : decode cX6_hasPlaces 23 = .ok (.ireturn, 1) := by decide +kernel
theorem dX6_become_0 : decode cX6_become 0 = .ok (.aload_n 0, 1) := by decide +kernel
theorem dX6_become_1 : decode cX6_become 1 = .ok (.iload_n 1, 1) := by decide +kernel
theorem dX6_become_2 : decode cX6_become 2 = .ok (.putfield 9, 3) := by decide +kernel
theorem dX6_become_5 : decode cX6_become 5 = .ok (.aload_n 0, 1) := by decide +kernel
theorem dX6_become_6 : decode cX6_become 6 = .ok (.iload_n 2, 1) := by decide +kernel
theorem dX6_become_7 : decode cX6_become 7 = .ok (.putfield 15, 3) := by decide +kernel
theorem dX6_become_10 : decode cX6_become 10 = .ok (.iconst 0, 1) := by decide +kernel
theorem dX6_become_11 : decode cX6_become 11 = .ok (.istore_n 3, 1) := by decide +kernel
theorem dX6_become_12 : decode cX6_become 12 = .ok (.iload_n 3, 1) := by decide +kernel
theorem dX6_become_13 : decode cX6_become 13 = .ok (.bipush 24, 2) := by decide +kernel
theorem dX6_become_15 : decode cX6_become 15 = .ok (.if_icmp .ge 16, 3) := by decide +kernel
theorem dX6_become_18 : decode cX6_become 18 = .ok (.aload_n 0, 1) := by decide +kernel
theorem dX6_become_19 : decode cX6_become 19 = .ok (.getfield 18, 3) := by decide +kernel
theorem dX6_become_22 : decode cX6_become 22 = .ok (.iload_n 3, 1) := by decide +kernel
theorem dX6_become_23 : decode cX6_become 23 = .ok (.iconst 0, 1) := by decide +kernel
theorem dX6_become_24 : decode cX6_become 24 = .ok (.iastore, 1) := by decide +kernel
theorem dX6_become_25 : decode cX6_become 25 = .ok (.iinc 3 1, 3) := by decide +kernel
theorem dX6_become_28 : decode cX6_become 28 = .ok (.goto (-16), 3) := by decide +kernel
theorem dX6_become_31 : decode cX6_become 31 = .ok (.return_, 1) := by decide +kernel
theorem dX6_takeFrom_0 : decode cX6_takeFrom 0 = .ok (.aload_n 0, 1) := by decide +kernel
theorem dX6_takeFrom_1 : decode cX6_takeFrom 1 = .ok (.aload_n 1, 1) := by decide +kernel
theorem dX6_takeFrom_2 : decode cX6_takeFrom 2 = .ok (.getfield 9, 3) := by decide +kernel
theorem dX6_takeFrom_5 : decode cX6_takeFrom 5 = .ok (.putfield 9, 3) := by decide +kernel
theorem dX6_takeFrom_8 : decode cX6_takeFrom 8 = .ok (.aload_n 0, 1) := by decide +kernel
theorem dX6_takeFrom_9 : decode cX6_takeFrom 9 = .ok (.aload_n 1, 1) := by decide +kernel
theorem dX6_takeFrom_10 : decode cX6_takeFrom 10 = .ok (.getfield 15, 3) := by decide +kernel
theorem dX6_takeFrom_13 : decode cX6_takeFrom 13 = .ok (.putfield 15, 3) := by decide +kernel
theorem dX6_takeFrom_16 : decode cX6_takeFrom 16 = .ok (.aload_n 1, 1) := by decide +kernel
theorem dX6_takeFrom_17 : decode cX6_takeFrom 17 = .ok (.getfield 18, 3) := by decide +kernel
theorem dX6_takeFrom_20 : decode cX6_takeFrom 20 = .ok (.iconst 0, 1) := by decide +kernel
theorem dX6_takeFrom_21 : decode cX6_takeFrom 21 = .ok (.aload_n 0, 1) := by decide +kernel
theorem dX6_takeFrom_22 : decode cX6_takeFrom 22 = .ok (.getfield 18, 3) := by decide +kernel
theorem dX6_takeFrom_25 : decode cX6_takeFrom 25 = .ok (.iconst 0, 1) := by decide +kernel
theorem dX6_takeFrom_26 : decode cX6_takeFrom 26 = .ok (.bipush 24, 2) := by decide +kernel
theorem dX6_takeFrom_28 : decode cX6_takeFrom 28 = .ok (.invokestatic 23, 3) := by decide +kernel
theorem dX6_takeFrom_31 : decode cX6_takeFrom 31 = .ok (.return_, 1) := by decide +kernel
theorem dX6_placesWithin_0 : decode cX6_placesWithin 0 = .ok (.iconst 0, 1) := by decide +kernel
theorem dX6_placesWithin_1 : decode cX6_placesWithin 1 = .ok (.istore_n 2, 1) := by decide +kernel
theorem dX6_placesWithin_2 : decode cX6_placesWithin 2 = .ok (.iconst 0, 1) := by decide +kernel
theorem dX6_placesWithin_3 : decode cX6_placesWithin 3 = .ok (.istore_n 3, 1) := by decide +kernel
theorem dX6_placesWithin_4 : decode cX6_placesWithin 4 = .ok (.iload_n 3, 1) := by decide +kernel
theorem dX6_placesWithin_5 : decode cX6_placesWithin 5 = .ok (.aload_n 0, 1) := by decide +kernel
theorem dX6_placesWithin_6 : decode cX6_placesWithin 6 = .ok (.getfield 15, 3) := by decide +kernel
theorem dX6_placesWithin_9 : decode cX6_placesWithin 9 = .ok (.if_icmp .ge 30, 3) := by decide +kernel
theorem dX6_placesWithin_12 : decode cX6_placesWithin 12 = .ok (.iload_n 2, 1) := by decide +kernel
theorem dX6_placesWithin_13 : decode cX6_placesWithin 13 = .ok (.aload_n 0, 1) := by decide +kernel
theorem dX6_placesWithin_14 : decode cX6_placesWithin 14 = .ok (.getfield 18, 3) := by decide +kernel
theorem dX6_placesWithin_17 : decode cX6_placesWithin 17 = .ok (.iload_n 3, 1) := by decide +kernel
theorem dX6_placesWithin_18 : decode cX6_placesWithin 18 = .ok (.iaload, 1) := by decide +kernel
theorem dX6_placesWithin_19 : decode cX6_placesWithin 19 = .ok (.iload_n 1, 1) := by decide +kernel
theorem dX6_placesWithin_20 : decode cX6_placesWithin 20 = .ok (.invokestatic 29, 3) := by decide +kernel
theorem dX6_placesWithin_23 : decode cX6_placesWithin 23 = .ok (.ifCond .eq 7, 3) := by decide +kernel
theorem dX6_placesWithin_26 : decode cX6_placesWithin 26 = .ok (.iconst 1, 1) := by decide +kernel
theorem dX6_placesWithin_27 : decode cX6_placesWithin 27 = .ok (.goto 4, 3) := by decide +kernel
theorem dX6_placesWithin_30 : decode cX6_placesWithin 30 = .ok (.iconst 0, 1) := by decide +kernel
theorem dX6_placesWithin_31 : decode cX6_placesWithin 31 = .ok (.iadd, 1) := by decide +kernel
theorem dX6_placesWithin_32 : decode cX6_placesWithin 32 = .ok (.istore_n 2, 1) := by decide +kernel
theorem dX6_placesWithin_33 : decode cX6_placesWithin 33 = .ok (.iinc 3 1, 3) := by decide +kernel
theorem dX6_placesWithin_36 : decode cX6_placesWithin 36 = .ok (.goto (-32), 3) := by decide +kernel
theorem dX6_placesWithin_39 : decode cX6_placesWithin 39 = .ok (.iload_n 2, 1) := by decide +kernel
theorem dX6_placesWithin_40 : decode cX6_placesWithin 40 = .ok (.ireturn, 1) := by decide +kernel
theorem dX6_smoothen_0 : decode cX6_smoothen 0 = .ok (.iconst 0, 1) := by decide +kernel
theorem dX6_smoothen_1 : decode cX6_smoothen 1 = .ok (.istore_n 1, 1) := by decide +kernel
theorem dX6_smoothen_2 : decode cX6_smoothen 2 = .ok (.aload_n 0, 1) := by decide +kernel
theorem dX6_smoothen_3 : decode cX6_smoothen 3 = .ok (.getfield 18, 3) := by decide +kernel
theorem dX6_smoothen_6 : decode cX6_smoothen 6 = .ok (.iconst 0, 1) := by decide +kernel
theorem dX6_smoothen_7 : decode cX6_smoothen 7 = .ok (.iaload, 1) := by decide +kernel
theorem dX6_smoothen_8 : decode cX6_smoothen 8 = .ok (.istore_n 2, 1) := by decide +kernel
theorem dX6_smoothen_9 : decode cX6_smoothen 9 = .ok (.iconst 1, 1) := by decide +kernel
theorem dX6_smoothen_10 : decode cX6_smoothen 10 = .ok (.istore_n 3, 1) := by decide +kernel
theorem dX6_smoothen_11 : decode cX6_smoothen 11 = .ok (.iload_n 3, 1) := by decide +kernel
theorem dX6_smoothen_12 : decode cX6_smoothen 12 = .ok (.aload_n 0, 1) := by decide +kernel
theorem dX6_smoothen_13 : decode cX6_smoothen 13 = .ok (.getfield 15, 3) := by decide +kernel
theorem dX6_smoothen_16 : decode cX6_smoothen 16 = .ok (.iconst 1, 1) := by decide +kernel
theorem dX6_smoothen_17 : decode cX6_smoothen 17 = .ok (.isub, 1) := by decide +kernel
theorem dX6_smoothen_18 : decode cX6_smoothen 18 = .ok (.if_icmp .ge 96, 3) := by decide +kernel
theorem dX6_smoothen_21 : decode cX6_smoothen 21 = .ok (.aload_n 0, 1) := by decide +kernel
theorem dX6_smoothen_22 : decode cX6_smoothen 22 = .ok (.getfield 18, 3) := by decide +kernel
theorem dX6_smoothen_25 : decode cX6_smoothen 25 = .ok (.iload_n 3, 1) := by decide +kernel
theorem dX6_smoothen_26 : decode cX6_smoothen 26 = .ok (.iaload, 1) := by decide +kernel
theorem dX6_smoothen_27 : decode cX6_smoothen 27 = .ok (.istore 4, 2) := by decide +kernel
theorem dX6_smoothen_29 : decode cX6_smoothen 29 = .ok (.aload_n 0, 1) := by decide +kernel
theorem dX6_smoothen_30 : decode cX6_smoothen 30 = .ok (.getfield 18, 3) := by decide +kernel
theorem dX6_smoothen_33 : decode cX6_smoothen 33 = .ok (.iload_n 3, 1) := by decide +kernel
theorem dX6_smoothen_34 : decode cX6_smoothen 34 = .ok (.iconst 1, 1) := by decide +kernel
theorem dX6_smoothen_35 : decode cX6_smoothen 35 = .ok (.iadd, 1) := by decide +kernel
theorem dX6_smoothen_36 : decode cX6_smoothen 36 = .ok (.iaload, 1) := by decide +kernel
theorem dX6_smoothen_37 : decode cX6_smoothen 37 = .ok (.istore 5, 2) := by decide +kernel
theorem dX6_smoothen_39 : decode cX6_smoothen 39 = .ok (.aload_n 0, 1) := by decide +kernel
theorem dX6_smoothen_40 : decode cX6_smoothen 40 = .ok (.iload_n 2, 1) := by decide +kernel
theorem dX6_smoothen_41 : decode cX6_smoothen 41 = .ok (.invokevirtual 33, 3) := by decide +kernel
theorem dX6_smoothen_44 : decode cX6_smoothen 44 = .ok (.ifCond .ne 42, 3) := by decide +kernel
theorem dX6_smoothen_47 : decode cX6_smoothen 47 = .ok (.aload_n 0, 1) := by decide +kernel
theorem dX6_smoothen_48 : decode cX6_smoothen 48 = .ok (.iload 4, 2) := by decide +kernel
theorem dX6_smoothen_50 : decode cX6_smoothen 50 = .ok (.invokevirtual 33, 3) := by decide +kernel
theorem dX6_smoothen_53 : decode cX6_smoothen 53 = .ok (.ifCond .ne 33, 3) := by decide +kernel
theorem dX6_smoothen_56 : decode cX6_smoothen 56 = .ok (.aload_n 0, 1) := by decide +kernel
theorem dX6_smoothen_57 : decode cX6_smoothen 57 = .ok (.iload 5, 2) := by decide +kernel
theorem dX6_smoothen_59 : decode cX6_smoothen 59 = .ok (.invokevirtual 33, 3) := by decide +kernel
theorem dX6_smoothen_62 : decode cX6_smoothen 62 = .ok (.ifCond .ne 24, 3) := by decide +kernel
theorem dX6_smoothen_65 : decode cX6_smoothen 65 = .ok (.aload_n 0, 1) := by decide +kernel
theorem dX6_smoothen_66 : decode cX6_smoothen 66 = .ok (.getfield 18, 3) := by decide +kernel
theorem dX6_smoothen_69 : decode cX6_smoothen 69 = .ok (.iload_n 3, 1) := by decide +kernel
theorem dX6_smoothen_70 : decode cX6_smoothen 70 = .ok (.iload_n 2, 1) := by decide +kernel
theorem dX6_smoothen_71 : decode cX6_smoothen 71 = .ok (.i2l, 1) := by decide +kernel
theorem dX6_smoothen_72 : decode cX6_smoothen 72 = .ok (.iload 4, 2) := by decide +kernel
theorem dX6_smoothen_74 : decode cX6_smoothen 74 = .ok (.i2l, 1) := by decide +kernel
theorem dX6_smoothen_75 : decode cX6_smoothen 75 = .ok (.ladd, 1) := by decide +kernel
theorem dX6_smoothen_76 : decode cX6_smoothen 76 = .ok (.iload 5, 2) := by decide +kernel
theorem dX6_smoothen_78 : decode cX6_smoothen 78 = .ok (.i2l, 1) := by decide +kernel
theorem dX6_smoothen_79 : decode cX6_smoothen 79 = .ok (.ladd, 1) := by decide +kernel
theorem dX6_smoothen_80 : decode cX6_smoothen 80 = .ok (.ldc2_w 37, 3) := by decide +kernel
theorem dX6_smoothen_83 : decode cX6_smoothen 83 = .ok (.ldiv, 1) := by decide +kernel
theorem dX6_smoothen_84 : decode cX6_smoothen 84 = .ok (.l2i, 1) := by decide +kernel
theorem dX6_smoothen_85 : decode cX6_smoothen 85 = .ok (.iastore, 1) := by decide +kernel
theorem dX6_smoothen_86 : decode cX6_smoothen 86 = .ok (.iload_n 1, 1) := by decide +kernel
theorem dX6_smoothen_87 : decode cX6_smoothen 87 = .ok (.aload_n 0, 1) := by decide +kernel
theorem dX6_smoothen_88 : decode cX6_smoothen 88 = .ok (.getfield 18, 3) := by decide +kernel
theorem dX6_smoothen_91 : decode cX6_smoothen 91 = .ok (.iload_n 3, 1) := by decide +kernel
theorem dX6_smoothen_92 : decode cX6_smoothen 92 = .ok (.iaload, 1) := by decide +kernel
theorem dX6_smoothen_93 : decode cX6_smoothen 93 = .ok (.iload 4, 2) := by decide +kernel
theorem dX6_smoothen_95 : decode cX6_smoothen 95 = .ok (.if_icmp .eq 7, 3) := by decide +kernel
theorem dX6_smoothen_98 : decode cX6_smoothen 98 = .ok (.iconst 1, 1) := by decide +kernel
theorem dX6_smoothen_99 : decode cX6_smoothen 99 = .ok (.goto 4, 3) := by decide +kernel
theorem dX6_smoothen_102 : decode cX6_smoothen 102 = .ok (.iconst 0, 1) := by decide +kernel
theorem dX6_smoothen_103 : decode cX6_smoothen 103 = .ok (.iadd, 1) := by decide +kernel
theorem dX6_smoothen_104 : decode cX6_smoothen 104 = .ok (.istore_n 1, 1) := by decide +kernel
theorem dX6_smoothen_105 : decode cX6_smoothen 105 = .ok (.iload 4, 2) := by decide +kernel
theorem dX6_smoothen_107 : decode cX6_smoothen 107 = .ok (.istore_n 2, 1) := by decide +kernel
theorem dX6_smoothen_108 : decode cX6_smoothen 108 = .ok (.iinc 3 1, 3) := by decide +kernel
theorem dX6_smoothen_111 : decode cX6_smoothen 111 = .ok (.goto (-100), 3) := by decide +kernel
theorem dX6_smoothen_114 : decode cX6_smoothen 114 = .ok (.iload_n 1, 1) := by decide +kernel
theorem dX6_smoothen_115 : decode cX6_smoothen 115 = .ok (.ireturn, 1) := by decide +kernel
theorem dX7_init_0 : decode cX7_init 0 = .ok (.aload_n 0, 1) := by decide +kernel
theorem dX7_init_1 : decode cX7_init 1 = .ok (.invokespecial 1, 3) := by decide +kernel
theorem dX7_init_4 : decode cX7_init 4 = .ok (.aload_n 0, 1) := by decide +kernel
theorem dX7_init_5 : decode cX7_init 5 = .ok (.iconst 0, 1) := by decide +kernel
theorem dX7_init_6 : decode cX7_init 6 = .ok (.putfield 7, 3) := by decide +kernel
theorem dX7_init_9 : decode cX7_init 9 = .ok (.aload_n 0, 1) := by decide +kernel
theorem dX7_init_10 : decode cX7_init 10 = .ok (.iconst 0, 1) := by decide +kernel
theorem dX7_init_11 : decode cX7_init 11 = .ok (.putfield 13, 3) := by decide +kernel
theorem dX7_init_14 : decode cX7_init 14 = .ok (.aload_n 0, 1) := by decide +kernel
theorem dX7_init_15 : decode cX7_init 15 = .ok (.iconst 0, 1) := by decide +kernel
theorem dX7_init_16 : decode cX7_init 16 = .ok (.putfield 16, 3) := by decide +kernel
theorem dX7_init_19 : decode cX7_init 19 = .ok (.aload_n 0, 1) := by decide +kernel
theorem dX7_init_20 : decode cX7_init 20 = .ok (.new 19, 3) := by decide +kernel
theorem dX7_init_23 : decode cX7_init 23 = .ok (.dup, 1) := by decide +kernel
theorem dX7_init_24 : decode cX7_init 24 = .ok (.invokespecial 21, 3) := by decide +kernel
theorem dX7_init_27 : decode cX7_init 27 = .ok (.putfield 22, 3) := by decide +kernel
theorem dX7_init_30 : decode cX7_init 30 = .ok (.return_, 1) := by decide +kernel
theorem dX8_init_0 : decode cX8_init 0 = .ok (.aload_n 0, 1) := by decide +kernel
theorem dX8_init_1 : decode cX8_init 1 = .ok (.invokespecial 3, 3) := by decide +kernel
theorem dX8_init_4 : decode cX8_init 4 = .ok (.aload_n 0, 1) := by decide +kernel
theorem dX8_init_5 : decode cX8_init 5 = .ok (.bipush 96, 2) := by decide +kernel
theorem dX8_init_7 : decode cX8_init 7 = .ok (.newarray .int, 2) := by decide +kernel
theorem dX8_init_9 : decode cX8_init 9 = .ok (.putfield 9, 3) := by decide +kernel
theorem dX8_init_12 : decode cX8_init 12 = .ok (.return_, 1) := by decide +kernel
theorem dX8_takeFrom_0 : decode cX8_takeFrom 0 = .ok (.aload_n 0, 1) := by decide +kernel
theorem dX8_takeFrom_1 : decode cX8_takeFrom 1 = .ok (.aload_n 1, 1) := by decide +kernel
theorem dX8_takeFrom_2 : decode cX8_takeFrom 2 = .ok (.getfield 15, 3) := by decide +kernel
theorem dX8_takeFrom_5 : decode cX8_takeFrom 5 = .ok (.putfield 21, 3) := by decide +kernel
theorem dX8_takeFrom_8 : decode cX8_takeFrom 8 = .ok (.aload_n 0, 1) := by decide +kernel
theorem dX8_takeFrom_9 : decode cX8_takeFrom 9 = .ok (.aload_n 1, 1) := by decide +kernel
theorem dX8_takeFrom_10 : decode cX8_takeFrom 10 = .ok (.getfield 22, 3) := by decide +kernel
theorem dX8_takeFrom_13 : decode cX8_takeFrom 13 = .ok (.putfield 25, 3) := by decide +kernel
theorem dX8_takeFrom_16 : decode cX8_takeFrom 16 = .ok (.aload_n 0, 1) := by decide +kernel
theorem dX8_takeFrom_17 : decode cX8_takeFrom 17 = .ok (.aload_n 1, 1) := by decide +kernel
theorem dX8_takeFrom_18 : decode cX8_takeFrom 18 = .ok (.getfield 26, 3) := by decide +kernel
theorem dX8_takeFrom_21 : decode cX8_takeFrom 21 = .ok (.putfield 29, 3) := by decide +kernel
theorem dX8_takeFrom_24 : decode cX8_takeFrom 24 = .ok (.aload_n 0, 1) := by decide +kernel
theorem dX8_takeFrom_25 : decode cX8_takeFrom 25 = .ok (.aload_n 1, 1) := by decide +kernel
theorem dX8_takeFrom_26 : decode cX8_takeFrom 26 = .ok (.getfield 30, 3) := by decide +kernel
theorem dX8_takeFrom_29 : decode cX8_takeFrom 29 = .ok (.putfield 33, 3) := by decide +kernel
theorem dX8_takeFrom_32 : decode cX8_takeFrom 32 = .ok (.aload_n 1, 1) := by decide +kernel
theorem dX8_takeFrom_33 : decode cX8_takeFrom 33 = .ok (.getfield 36, 3) := by decide +kernel
theorem dX8_takeFrom_36 : decode cX8_takeFrom 36 = .ok (.iconst 0, 1) := by decide +kernel
theorem dX8_takeFrom_37 : decode cX8_takeFrom 37 = .ok (.aload_n 0, 1) := by decide +kernel
theorem dX8_takeFrom_38 : decode cX8_takeFrom 38 = .ok (.getfield 9, 3) := by decide +kernel
theorem dX8_takeFrom_41 : decode cX8_takeFrom 41 = .ok (.iconst 0, 1) := by decide +kernel
theorem dX8_takeFrom_42 : decode cX8_takeFrom 42 = .ok (.aload_n 0, 1) := by decide +kernel
theorem dX8_takeFrom_43 : decode cX8_takeFrom 43 = .ok (.getfield 33, 3) := by decide +kernel
theorem dX8_takeFrom_46 : decode cX8_takeFrom 46 = .ok (.invokestatic 37, 3) := by decide +kernel
theorem dX8_takeFrom_49 : decode cX8_takeFrom 49 = .ok (.return_, 1) := by decide +kernel
theorem dX8_valueFor_0 : decode cX8_valueFor 0 = .ok (.iconst 0, 1) := by decide +kernel
theorem dX8_valueFor_1 : decode cX8_valueFor 1 = .ok (.istore_n 3, 1) := by decide +kernel
theorem dX8_valueFor_2 : decode cX8_valueFor 2 = .ok (.iconst 0, 1) := by decide +kernel
theorem dX8_valueFor_3 : decode cX8_valueFor 3 = .ok (.istore 4, 2) := by decide +kernel
theorem dX8_valueFor_5 : decode cX8_valueFor 5 = .ok (.iload 4, 2) := by decide +kernel
theorem dX8_valueFor_7 : decode cX8_valueFor 7 = .ok (.aload_n 0, 1) := by decide +kernel
theorem dX8_valueFor_8 : decode cX8_valueFor 8 = .ok (.getfield 33, 3) := by decide +kernel
theorem dX8_valueFor_11 : decode cX8_valueFor 11 = .ok (.if_icmp .ge 163, 3) := by decide +kernel
theorem dX8_valueFor_14 : decode cX8_valueFor 14 = .ok (.iload_n 3, 1) := by decide +kernel
theorem dX8_valueFor_15 : decode cX8_valueFor 15 = .ok (.aload_n 2, 1) := by decide +kernel
theorem dX8_valueFor_16 : decode cX8_valueFor 16 = .ok (.arraylength, 1) := by decide +kernel
theorem dX8_valueFor_17 : decode cX8_valueFor 17 = .ok (.if_icmp .ge 157, 3) := by decide +kernel
theorem dX8_valueFor_20 : decode cX8_valueFor 20 = .ok (.aload_n 0, 1) := by decide +kernel
theorem dX8_valueFor_21 : decode cX8_valueFor 21 = .ok (.getfield 9, 3) := by decide +kernel
theorem dX8_valueFor_24 : decode cX8_valueFor 24 = .ok (.iload 4, 2) := by decide +kernel
theorem dX8_valueFor_26 : decode cX8_valueFor 26 = .ok (.iaload, 1) := by decide +kernel
theorem dX8_valueFor_27 : decode cX8_valueFor 27 = .ok (.ineg, 1) := by decide +kernel
theorem dX8_valueFor_28 : decode cX8_valueFor 28 = .ok (.istore 5, 2) := by decide +kernel
theorem dX8_valueFor_30 : decode cX8_valueFor 30 = .ok (.iload 5, 2) := by decide +kernel
theorem dX8_valueFor_32 : decode cX8_valueFor 32 = .ok (.ifCond .gt 15, 3) := by decide +kernel
theorem dX8_valueFor_35 : decode cX8_valueFor 35 = .ok (.aload_n 2, 1) := by decide +kernel
theorem dX8_valueFor_36 : decode cX8_valueFor 36 = .ok (.iload_n 3, 1) := by decide +kernel
theorem dX8_valueFor_37 : decode cX8_valueFor 37 = .ok (.iinc 3 1, 3) := by decide +kernel
theorem dX8_valueFor_40 : decode cX8_valueFor 40 = .ok (.iload 5, 2) := by decide +kernel
theorem dX8_valueFor_42 : decode cX8_valueFor 42 = .ok (.ineg, 1) := by decide +kernel
theorem dX8_valueFor_43 : decode cX8_valueFor 43 = .ok (.iastore, 1) := by decide +kernel
theorem dX8_valueFor_44 : decode cX8_valueFor 44 = .ok (.goto 124, 3) := by decide +kernel
theorem dX8_valueFor_47 : decode cX8_valueFor 47 = .ok (.iload 5, 2) := by decide +kernel
theorem dX8_valueFor_49 : decode cX8_valueFor 49 = .ok (.bipush 100, 2) := by decide +kernel
theorem dX8_valueFor_51 : decode cX8_valueFor 51 = .ok (.if_icmp .eq 17, 3) := by decide +kernel
theorem dX8_valueFor_54 : decode cX8_valueFor 54 = .ok (.iload 5, 2) := by decide +kernel
theorem dX8_valueFor_56 : decode cX8_valueFor 56 = .ok (.bipush 97, 2) := by decide +kernel
theorem dX8_valueFor_58 : decode cX8_valueFor 58 = .ok (.if_icmp .eq 10, 3) := by decide +kernel
theorem dX8_valueFor_61 : decode cX8_valueFor 61 = .ok (.iload 5, 2) := by decide +kernel
theorem dX8_valueFor_63 : decode cX8_valueFor 63 = .ok (.bipush 111, 2) := by decide +kernel
theorem dX8_valueFor_65 : decode cX8_valueFor 65 = .ok (.if_icmp .ne 44, 3) := by decide +kernel
theorem dX8_valueFor_68 : decode cX8_valueFor 68 = .ok (.aload_n 2, 1) := by decide +kernel
theorem dX8_valueFor_69 : decode cX8_valueFor 69 = .ok (.iload_n 3, 1) := by decide +kernel
theorem dX8_valueFor_70 : decode cX8_valueFor 70 = .ok (.iinc 3 1, 3) := by decide +kernel
theorem dX8_valueFor_73 : decode cX8_valueFor 73 = .ok (.iload 5, 2) := by decide +kernel
theorem dX8_valueFor_75 : decode cX8_valueFor 75 = .ok (.bipush 100, 2) := by decide +kernel
theorem dX8_valueFor_77 : decode cX8_valueFor 77 = .ok (.if_icmp .ne 10, 3) := by decide +kernel
theorem dX8_valueFor_80 : decode cX8_valueFor 80 = .ok (.aload_n 1, 1) := by decide +kernel
theorem dX8_valueFor_81 : decode cX8_valueFor 81 = .ok (.getfield 43, 3) := by decide +kernel
theorem dX8_valueFor_84 : decode cX8_valueFor 84 = .ok (.goto 21, 3) := by decide +kernel
theorem dX8_valueFor_87 : decode cX8_valueFor 87 = .ok (.iload 5, 2) := by decide +kernel
theorem dX8_valueFor_89 : decode cX8_valueFor 89 = .ok (.bipush 97, 2) := by decide +kernel
theorem dX8_valueFor_91 : decode cX8_valueFor 91 = .ok (.if_icmp .ne 10, 3) := by decide +kernel
theorem dX8_valueFor_94 : decode cX8_valueFor 94 = .ok (.aload_n 1, 1) := by decide +kernel
theorem dX8_valueFor_95 : decode cX8_valueFor 95 = .ok (.getfield 48, 3) := by decide +kernel
theorem dX8_valueFor_98 : decode cX8_valueFor 98 = .ok (.goto 7, 3) := by decide +kernel
theorem dX8_valueFor_101 : decode cX8_valueFor 101 = .ok (.aload_n 1, 1) := by decide +kernel
theorem dX8_valueFor_102 : decode cX8_valueFor 102 = .ok (.getfield 51, 3) := by decide +kernel
theorem dX8_valueFor_105 : decode cX8_valueFor 105 = .ok (.iastore, 1) := by decide +kernel
theorem dX8_valueFor_106 : decode cX8_valueFor 106 = .ok (.goto 62, 3) := by decide +kernel
theorem dX8_valueFor_109 : decode cX8_valueFor 109 = .ok (.iload 5, 2) := by decide +kernel
theorem dX8_valueFor_111 : decode cX8_valueFor 111 = .ok (.bipush 33, 2) := by decide +kernel
theorem dX8_valueFor_113 : decode cX8_valueFor 113 = .ok (.if_icmp .ne 29, 3) := by decide +kernel
theorem dX8_valueFor_116 : decode cX8_valueFor 116 = .ok (.iload_n 3, 1) := by decide +kernel
theorem dX8_valueFor_117 : decode cX8_valueFor 117 = .ok (.iconst 1, 1) := by decide +kernel
theorem dX8_valueFor_118 : decode cX8_valueFor 118 = .ok (.if_icmp .lt 24, 3) := by decide +kernel
theorem dX8_valueFor_121 : decode cX8_valueFor 121 = .ok (.aload_n 2, 1) := by decide +kernel
theorem dX8_valueFor_122 : decode cX8_valueFor 122 = .ok (.iload_n 3, 1) := by decide +kernel
theorem dX8_valueFor_123 : decode cX8_valueFor 123 = .ok (.iconst 1, 1) := by decide +kernel
theorem dX8_valueFor_124 : decode cX8_valueFor 124 = .ok (.isub, 1) := by decide +kernel
theorem dX8_valueFor_125 : decode cX8_valueFor 125 = .ok (.aload_n 2, 1) := by decide +kernel
theorem dX8_valueFor_126 : decode cX8_valueFor 126 = .ok (.iload_n 3, 1) := by decide +kernel
theorem dX8_valueFor_127 : decode cX8_valueFor 127 = .ok (.iconst 1, 1) := by decide +kernel
theorem dX8_valueFor_128 : decode cX8_valueFor 128 = .ok (.isub, 1) := by decide +kernel
theorem dX8_valueFor_129 : decode cX8_valueFor 129 = .ok (.iaload, 1) := by decide +kernel
theorem dX8_valueFor_130 : decode cX8_valueFor 130 = .ok (.ifCond .ne 7, 3) := by decide +kernel
theorem dX8_valueFor_133 : decode cX8_valueFor 133 = .ok (.iconst 1, 1) := by decide +kernel
theorem dX8_valueFor_134 : decode cX8_valueFor 134 = .ok (.goto 4, 3) := by decide +kernel
theorem dX8_valueFor_137 : decode cX8_valueFor 137 = .ok (.iconst 0, 1) := by decide +kernel
theorem dX8_valueFor_138 : decode cX8_valueFor 138 = .ok (.iastore, 1) := by decide +kernel
theorem dX8_valueFor_139 : decode cX8_valueFor 139 = .ok (.goto 29, 3) := by decide +kernel
theorem dX8_valueFor_142 : decode cX8_valueFor 142 = .ok (.iload_n 3, 1) := by decide +kernel
theorem dX8_valueFor_143 : decode cX8_valueFor 143 = .ok (.iconst 2, 1) := by decide +kernel
theorem dX8_valueFor_144 : decode cX8_valueFor 144 = .ok (.if_icmp .lt 24, 3) := by decide +kernel
theorem dX8_valueFor_147 : decode cX8_valueFor 147 = .ok (.iinc 3 (-1), 3) := by decide +kernel
theorem dX8_valueFor_150 : decode cX8_valueFor 150 = .ok (.aload_n 2, 1) := by decide +kernel
theorem dX8_valueFor_151 : decode cX8_valueFor 151 = .ok (.iload_n 3, 1) := by decide +kernel
theorem dX8_valueFor_152 : decode cX8_valueFor 152 = .ok (.iconst 1, 1) := by decide +kernel
theorem dX8_valueFor_153 : decode cX8_valueFor 153 = .ok (.isub, 1) := by decide +kernel
theorem dX8_valueFor_154 : decode cX8_valueFor 154 = .ok (.iload 5, 2) := by decide +kernel
theorem dX8_valueFor_156 : decode cX8_valueFor 156 = .ok (.aload_n 2, 1) := by decide +kernel
theorem dX8_valueFor_157 : decode cX8_valueFor 157 = .ok (.iload_n 3, 1) := by decide +kernel
theorem dX8_valueFor_158 : decode cX8_valueFor 158 = .ok (.iconst 1, 1) := by decide +kernel
theorem dX8_valueFor_159 : decode cX8_valueFor 159 = .ok (.isub, 1) := by decide +kernel
theorem dX8_valueFor_160 : decode cX8_valueFor 160 = .ok (.iaload, 1) := by decide +kernel
theorem dX8_valueFor_161 : decode cX8_valueFor 161 = .ok (.aload_n 2, 1) := by decide +kernel
theorem dX8_valueFor_162 : decode cX8_valueFor 162 = .ok (.iload_n 3, 1) := by decide +kernel
theorem dX8_valueFor_163 : decode cX8_valueFor 163 = .ok (.iaload, 1) := by decide +kernel
theorem dX8_valueFor_164 : decode cX8_valueFor 164 = .ok (.invokestatic 54, 3) := by decide +kernel
theorem dX8_valueFor_167 : decode cX8_valueFor 167 = .ok (.iastore, 1) := by decide +kernel
theorem dX8_valueFor_168 : decode cX8_valueFor 168 = .ok (.iinc 4 1, 3) := by decide +kernel
theorem dX8_valueFor_171 : decode cX8_valueFor 171 = .ok (.goto (-166), 3) := by decide +kernel
theorem dX8_valueFor_174 : decode cX8_valueFor 174 = .ok (.aload_n 2, 1) := by decide +kernel
theorem dX8_valueFor_175 : decode cX8_valueFor 175 = .ok (.iconst 0, 1) := by decide +kernel
theorem dX8_valueFor_176 : decode cX8_valueFor 176 = .ok (.iaload, 1) := by decide +kernel
theorem dX8_valueFor_177 : decode cX8_valueFor 177 = .ok (.ireturn, 1) := by decide +kernel
theorem dX8_joined_0 : decode cX8_joined 0 = .ok (.iload_n 0, 1) := by decide +kernel
theorem dX8_joined_1 : decode cX8_joined 1 = .ok (.lookupswitch 148 #[(38, 89), (42, 144), (43, 136), (45, 140), (60, 103), (61, 114), (62, 125), (124, 75)], 75) := by decide +kernel
theorem dX8_joined_76 : decode cX8_joined 76 = .ok (.iload_n 1, 1) := by decide +kernel
theorem dX8_joined_77 : decode cX8_joined 77 = .ok (.ifCond .ne 7, 3) := by decide +kernel
theorem dX8_joined_80 : decode cX8_joined 80 = .ok (.iload_n 2, 1) := by decide +kernel
theorem dX8_joined_81 : decode cX8_joined 81 = .ok (.ifCond .eq 7, 3) := by decide +kernel
theorem dX8_joined_84 : decode cX8_joined 84 = .ok (.iconst 1, 1) := by decide +kernel
theorem dX8_joined_85 : decode cX8_joined 85 = .ok (.goto 4, 3) := by decide +kernel
theorem dX8_joined_88 : decode cX8_joined 88 = .ok (.iconst 0, 1) := by decide +kernel
theorem dX8_joined_89 : decode cX8_joined 89 = .ok (.ireturn, 1) := by decide +kernel
theorem dX8_joined_90 : decode cX8_joined 90 = .ok (.iload_n 1, 1) := by decide +kernel
theorem dX8_joined_91 : decode cX8_joined 91 = .ok (.ifCond .eq 11, 3) := by decide +kernel
theorem dX8_joined_94 : decode cX8_joined 94 = .ok (.iload_n 2, 1) := by decide +kernel
theorem dX8_joined_95 : decode cX8_joined 95 = .ok (.ifCond .eq 7, 3) := by decide +kernel
theorem dX8_joined_98 : decode cX8_joined 98 = .ok (.iconst 1, 1) := by decide +kernel
theorem dX8_joined_99 : decode cX8_joined 99 = .ok (.goto 4, 3) := by decide +kernel
theorem dX8_joined_102 : decode cX8_joined 102 = .ok (.iconst 0, 1) := by decide +kernel
theorem dX8_joined_103 : decode cX8_joined 103 = .ok (.ireturn, 1) := by decide +kernel
theorem dX8_joined_104 : decode cX8_joined 104 = .ok (.iload_n 1, 1) := by decide +kernel
theorem dX8_joined_105 : decode cX8_joined 105 = .ok (.iload_n 2, 1) := by decide +kernel
theorem dX8_joined_106 : decode cX8_joined 106 = .ok (.if_icmp .ge 7, 3) := by decide +kernel
theorem dX8_joined_109 : decode cX8_joined 109 = .ok (.iconst 1, 1) := by decide +kernel
theorem dX8_joined_110 : decode cX8_joined 110 = .ok (.goto 4, 3) := by decide +kernel
theorem dX8_joined_113 : decode cX8_joined 113 = .ok (.iconst 0, 1) := by decide +kernel
theorem dX8_joined_114 : decode cX8_joined 114 = .ok (.ireturn, 1) := by decide +kernel
theorem dX8_joined_115 : decode cX8_joined 115 = .ok (.iload_n 1, 1) := by decide +kernel
theorem dX8_joined_116 : decode cX8_joined 116 = .ok (.iload_n 2, 1) := by decide +kernel
theorem dX8_joined_117 : decode cX8_joined 117 = .ok (.if_icmp .ne 7, 3) := by decide +kernel
theorem dX8_joined_120 : decode cX8_joined 120 = .ok (.iconst 1, 1) := by decide +kernel
theorem dX8_joined_121 : decode cX8_joined 121 = .ok (.goto 4, 3) := by decide +kernel
theorem dX8_joined_124 : decode cX8_joined 124 = .ok (.iconst 0, 1) := by decide +kernel
theorem dX8_joined_125 : decode cX8_joined 125 = .ok (.ireturn, 1) := by decide +kernel
theorem dX8_joined_126 : decode cX8_joined 126 = .ok (.iload_n 1, 1) := by decide +kernel
theorem dX8_joined_127 : decode cX8_joined 127 = .ok (.iload_n 2, 1) := by decide +kernel
theorem dX8_joined_128 : decode cX8_joined 128 = .ok (.if_icmp .le 7, 3) := by decide +kernel
theorem dX8_joined_131 : decode cX8_joined 131 = .ok (.iconst 1, 1) := by decide +kernel
theorem dX8_joined_132 : decode cX8_joined 132 = .ok (.goto 4, 3) := by decide +kernel
theorem dX8_joined_135 : decode cX8_joined 135 = .ok (.iconst 0, 1) := by decide +kernel
theorem dX8_joined_136 : decode cX8_joined 136 = .ok (.ireturn, 1) := by decide +kernel
theorem dX8_joined_137 : decode cX8_joined 137 = .ok (.iload_n 1, 1) := by decide +kernel
theorem dX8_joined_138 : decode cX8_joined 138 = .ok (.iload_n 2, 1) := by decide +kernel
theorem dX8_joined_139 : decode cX8_joined 139 = .ok (.iadd, 1) := by decide +kernel
theorem dX8_joined_140 : decode cX8_joined 140 = .ok (.ireturn, 1) := by decide +kernel
theorem dX8_joined_141 : decode cX8_joined 141 = .ok (.iload_n 1, 1) := by decide +kernel
theorem dX8_joined_142 : decode cX8_joined 142 = .ok (.iload_n 2, 1) := by decide +kernel
theorem dX8_joined_143 : decode cX8_joined 143 = .ok (.isub, 1) := by decide +kernel
theorem dX8_joined_144 : decode cX8_joined 144 = .ok (.ireturn, 1) := by decide +kernel
theorem dX8_joined_145 : decode cX8_joined 145 = .ok (.iload_n 1, 1) := by decide +kernel
theorem dX8_joined_146 : decode cX8_joined 146 = .ok (.iload_n 2, 1) := by decide +kernel
theorem dX8_joined_147 : decode cX8_joined 147 = .ok (.imul, 1) := by decide +kernel
theorem dX8_joined_148 : decode cX8_joined 148 = .ok (.ireturn, 1) := by decide +kernel
theorem dX8_joined_149 : decode cX8_joined 149 = .ok (.iload_n 2, 1) := by decide +kernel
theorem dX8_joined_150 : decode cX8_joined 150 = .ok (.ifCond .ne 7, 3) := by decide +kernel
theorem dX8_joined_153 : decode cX8_joined 153 = .ok (.iconst 0, 1) := by decide +kernel
theorem dX8_joined_154 : decode cX8_joined 154 = .ok (.goto 6, 3) := by decide +kernel
theorem dX8_joined_157 : decode cX8_joined 157 = .ok (.iload_n 1, 1) := by decide +kernel
theorem dX8_joined_158 : decode cX8_joined 158 = .ok (.iload_n 2, 1) := by decide +kernel
theorem dX8_joined_159 : decode cX8_joined 159 = .ok (.idiv, 1) := by decide +kernel
theorem dX8_joined_160 : decode cX8_joined 160 = .ok (.ireturn, 1) := by decide +kernel
theorem dX9_init_0 : decode cX9_init 0 = .ok (.aload_n 0, 1) := by decide +kernel
theorem dX9_init_1 : decode cX9_init 1 = .ok (.invokespecial 1, 3) := by decide +kernel
theorem dX9_init_4 : decode cX9_init 4 = .ok (.aload_n 0, 1) := by decide +kernel
theorem dX9_init_5 : decode cX9_init 5 = .ok (.new 7, 3) := by decide +kernel
theorem dX9_init_8 : decode cX9_init 8 = .ok (.dup, 1) := by decide +kernel
theorem dX9_init_9 : decode cX9_init 9 = .ok (.invokespecial 9, 3) := by decide +kernel
theorem dX9_init_12 : decode cX9_init 12 = .ok (.putfield 10, 3) := by decide +kernel
theorem dX9_init_15 : decode cX9_init 15 = .ok (.aload_n 0, 1) := by decide +kernel
theorem dX9_init_16 : decode cX9_init 16 = .ok (.new 16, 3) := by decide +kernel
theorem dX9_init_19 : decode cX9_init 19 = .ok (.dup, 1) := by decide +kernel
theorem dX9_init_20 : decode cX9_init 20 = .ok (.invokespecial 18, 3) := by decide +kernel
theorem dX9_init_23 : decode cX9_init 23 = .ok (.putfield 19, 3) := by decide +kernel
theorem dX9_init_26 : decode cX9_init 26 = .ok (.aload_n 0, 1) := by decide +kernel
theorem dX9_init_27 : decode cX9_init 27 = .ok (.new 23, 3) := by decide +kernel
theorem dX9_init_30 : decode cX9_init 30 = .ok (.dup, 1) := by decide +kernel
theorem dX9_init_31 : decode cX9_init 31 = .ok (.invokespecial 25, 3) := by decide +kernel
theorem dX9_init_34 : decode cX9_init 34 = .ok (.putfield 26, 3) := by decide +kernel
theorem dX9_init_37 : decode cX9_init 37 = .ok (.aload_n 0, 1) := by decide +kernel
theorem dX9_init_38 : decode cX9_init 38 = .ok (.new 30, 3) := by decide +kernel
theorem dX9_init_41 : decode cX9_init 41 = .ok (.dup, 1) := by decide +kernel
theorem dX9_init_42 : decode cX9_init 42 = .ok (.invokespecial 32, 3) := by decide +kernel
theorem dX9_init_45 : decode cX9_init 45 = .ok (.putfield 33, 3) := by decide +kernel
theorem dX9_init_48 : decode cX9_init 48 = .ok (.aload_n 0, 1) := by decide +kernel
theorem dX9_init_49 : decode cX9_init 49 = .ok (.iconst 4, 1) := by decide +kernel
theorem dX9_init_50 : decode cX9_init 50 = .ok (.anewarray 37, 3) := by decide +kernel
theorem dX9_init_53 : decode cX9_init 53 = .ok (.putfield 39, 3) := by decide +kernel
theorem dX9_init_56 : decode cX9_init 56 = .ok (.aload_n 0, 1) := by decide +kernel
theorem dX9_init_57 : decode cX9_init 57 = .ok (.iconst 5, 1) := by decide +kernel
theorem dX9_init_58 : decode cX9_init 58 = .ok (.anewarray 43, 3) := by decide +kernel
theorem dX9_init_61 : decode cX9_init 61 = .ok (.putfield 45, 3) := by decide +kernel
theorem dX9_init_64 : decode cX9_init 64 = .ok (.aload_n 0, 1) := by decide +kernel
theorem dX9_init_65 : decode cX9_init 65 = .ok (.bipush 25, 2) := by decide +kernel
theorem dX9_init_67 : decode cX9_init 67 = .ok (.newarray .int, 2) := by decide +kernel
theorem dX9_init_69 : decode cX9_init 69 = .ok (.putfield 49, 3) := by decide +kernel
theorem dX9_init_72 : decode cX9_init 72 = .ok (.aload_n 0, 1) := by decide +kernel
theorem dX9_init_73 : decode cX9_init 73 = .ok (.bipush 60, 2) := by decide +kernel
theorem dX9_init_75 : decode cX9_init 75 = .ok (.newarray .int, 2) := by decide +kernel
theorem dX9_init_77 : decode cX9_init 77 = .ok (.putfield 53, 3) := by decide +kernel
theorem dX9_init_80 : decode cX9_init 80 = .ok (.aload_n 0, 1) := by decide +kernel
theorem dX9_init_81 : decode cX9_init 81 = .ok (.iconst 0, 1) := by decide +kernel
theorem dX9_init_82 : decode cX9_init 82 = .ok (.putfield 56, 3) := by decide +kernel
theorem dX9_init_85 : decode cX9_init 85 = .ok (.aload_n 0, 1) := by decide +kernel
theorem dX9_init_86 : decode cX9_init 86 = .ok (.iconst 0, 1) := by decide +kernel
theorem dX9_init_87 : decode cX9_init 87 = .ok (.putfield 60, 3) := by decide +kernel
theorem dX9_init_90 : decode cX9_init 90 = .ok (.bipush 14, 2) := by decide +kernel
theorem dX9_init_92 : decode cX9_init 92 = .ok (.anewarray 64, 3) := by decide +kernel
theorem dX9_init_95 : decode cX9_init 95 = .ok (.astore_n 1, 1) := by decide +kernel
theorem dX9_init_96 : decode cX9_init 96 = .ok (.iconst 0, 1) := by decide +kernel
theorem dX9_init_97 : decode cX9_init 97 = .ok (.istore_n 2, 1) := by decide +kernel
theorem dX9_init_98 : decode cX9_init 98 = .ok (.iload_n 2, 1) := by decide +kernel
theorem dX9_init_99 : decode cX9_init 99 = .ok (.bipush 14, 2) := by decide +kernel
theorem dX9_init_101 : decode cX9_init 101 = .ok (.if_icmp .ge 19, 3) := by decide +kernel
theorem dX9_init_104 : decode cX9_init 104 = .ok (.aload_n 1, 1) := by decide +kernel
theorem dX9_init_105 : decode cX9_init 105 = .ok (.iload_n 2, 1) := by decide +kernel
theorem dX9_init_106 : decode cX9_init 106 = .ok (.new 64, 3) := by decide +kernel
theorem dX9_init_109 : decode cX9_init 109 = .ok (.dup, 1) := by decide +kernel
theorem dX9_init_110 : decode cX9_init 110 = .ok (.invokespecial 66, 3) := by decide +kernel
theorem dX9_init_113 : decode cX9_init 113 = .ok (.aastore, 1) := by decide +kernel
theorem dX9_init_114 : decode cX9_init 114 = .ok (.iinc 2 1, 3) := by decide +kernel
theorem dX9_init_117 : decode cX9_init 117 = .ok (.goto (-19), 3) := by decide +kernel
theorem dX9_init_120 : decode cX9_init 120 = .ok (.bipush 96, 2) := by decide +kernel
theorem dX9_init_122 : decode cX9_init 122 = .ok (.newarray .int, 2) := by decide +kernel
theorem dX9_init_124 : decode cX9_init 124 = .ok (.astore_n 2, 1) := by decide +kernel
theorem dX9_init_125 : decode cX9_init 125 = .ok (.aload_n 0, 1) := by decide +kernel
theorem dX9_init_126 : decode cX9_init 126 = .ok (.new 67, 3) := by decide +kernel
theorem dX9_init_129 : decode cX9_init 129 = .ok (.dup, 1) := by decide +kernel
theorem dX9_init_130 : decode cX9_init 130 = .ok (.aload_n 1, 1) := by decide +kernel
theorem dX9_init_131 : decode cX9_init 131 = .ok (.aload_n 2, 1) := by decide +kernel
theorem dX9_init_132 : decode cX9_init 132 = .ok (.invokespecial 69, 3) := by decide +kernel
theorem dX9_init_135 : decode cX9_init 135 = .ok (.putfield 72, 3) := by decide +kernel
theorem dX9_init_138 : decode cX9_init 138 = .ok (.aload_n 0, 1) := by decide +kernel
theorem dX9_init_139 : decode cX9_init 139 = .ok (.new 67, 3) := by decide +kernel
theorem dX9_init_142 : decode cX9_init 142 = .ok (.dup, 1) := by decide +kernel
theorem dX9_init_143 : decode cX9_init 143 = .ok (.aload_n 1, 1) := by decide +kernel
theorem dX9_init_144 : decode cX9_init 144 = .ok (.aload_n 2, 1) := by decide +kernel
theorem dX9_init_145 : decode cX9_init 145 = .ok (.invokespecial 69, 3) := by decide +kernel
theorem dX9_init_148 : decode cX9_init 148 = .ok (.putfield 76, 3) := by decide +kernel
theorem dX9_init_151 : decode cX9_init 151 = .ok (.iconst 0, 1) := by decide +kernel
theorem dX9_init_152 : decode cX9_init 152 = .ok (.istore_n 3, 1) := by decide +kernel
theorem dX9_init_153 : decode cX9_init 153 = .ok (.iload_n 3, 1) := by decide +kernel
theorem dX9_init_154 : decode cX9_init 154 = .ok (.iconst 4, 1) := by decide +kernel
theorem dX9_init_155 : decode cX9_init 155 = .ok (.if_icmp .ge 22, 3) := by decide +kernel
theorem dX9_init_158 : decode cX9_init 158 = .ok (.aload_n 0, 1) := by decide +kernel
theorem dX9_init_159 : decode cX9_init 159 = .ok (.getfield 39, 3) := by decide +kernel
theorem dX9_init_162 : decode cX9_init 162 = .ok (.iload_n 3, 1) := by decide +kernel
theorem dX9_init_163 : decode cX9_init 163 = .ok (.new 37, 3) := by decide +kernel
theorem dX9_init_166 : decode cX9_init 166 = .ok (.dup, 1) := by decide +kernel
theorem dX9_init_167 : decode cX9_init 167 = .ok (.invokespecial 79, 3) := by decide +kernel
theorem dX9_init_170 : decode cX9_init 170 = .ok (.aastore, 1) := by decide +kernel
theorem dX9_init_171 : decode cX9_init 171 = .ok (.iinc 3 1, 3) := by decide +kernel
theorem dX9_init_174 : decode cX9_init 174 = .ok (.goto (-21), 3) := by decide +kernel
theorem dX9_init_177 : decode cX9_init 177 = .ok (.iconst 0, 1) := by decide +kernel
theorem dX9_init_178 : decode cX9_init 178 = .ok (.istore_n 3, 1) := by decide +kernel
theorem dX9_init_179 : decode cX9_init 179 = .ok (.iload_n 3, 1) := by decide +kernel
theorem dX9_init_180 : decode cX9_init 180 = .ok (.iconst 5, 1) := by decide +kernel
theorem dX9_init_181 : decode cX9_init 181 = .ok (.if_icmp .ge 22, 3) := by decide +kernel
theorem dX9_init_184 : decode cX9_init 184 = .ok (.aload_n 0, 1) := by decide +kernel
theorem dX9_init_185 : decode cX9_init 185 = .ok (.getfield 45, 3) := by decide +kernel
theorem dX9_init_188 : decode cX9_init 188 = .ok (.iload_n 3, 1) := by decide +kernel
theorem dX9_init_189 : decode cX9_init 189 = .ok (.new 43, 3) := by decide +kernel
theorem dX9_init_192 : decode cX9_init 192 = .ok (.dup, 1) := by decide +kernel
theorem dX9_init_193 : decode cX9_init 193 = .ok (.invokespecial 80, 3) := by decide +kernel
theorem dX9_init_196 : decode cX9_init 196 = .ok (.aastore, 1) := by decide +kernel
theorem dX9_init_197 : decode cX9_init 197 = .ok (.iinc 3 1, 3) := by decide +kernel
theorem dX9_init_200 : decode cX9_init 200 = .ok (.goto (-21), 3) := by decide +kernel
theorem dX9_init_203 : decode cX9_init 203 = .ok (.return_, 1) := by decide +kernel
theorem dX9_mark_0 : decode cX9_mark 0 = .ok (.iload_n 1, 1) := by decide +kernel
theorem dX9_mark_1 : decode cX9_mark 1 = .ok (.getstatic 81, 3) := by decide +kernel
theorem dX9_mark_4 : decode cX9_mark 4 = .ok (.arraylength, 1) := by decide +kernel
theorem dX9_mark_5 : decode cX9_mark 5 = .ok (.invokestatic 84, 3) := by decide +kernel
theorem dX9_mark_8 : decode cX9_mark 8 = .ok (.ifCond .eq 32, 3) := by decide +kernel
theorem dX9_mark_11 : decode cX9_mark 11 = .ok (.iload_n 2, 1) := by decide +kernel
theorem dX9_mark_12 : decode cX9_mark 12 = .ok (.invokestatic 88, 3) := by decide +kernel
theorem dX9_mark_15 : decode cX9_mark 15 = .ok (.ifCond .eq 25, 3) := by decide +kernel
theorem dX9_mark_18 : decode cX9_mark 18 = .ok (.iload_n 3, 1) := by decide +kernel
theorem dX9_mark_19 : decode cX9_mark 19 = .ok (.sipush 1000, 3) := by decide +kernel
theorem dX9_mark_22 : decode cX9_mark 22 = .ok (.invokestatic 84, 3) := by decide +kernel
theorem dX9_mark_25 : decode cX9_mark 25 = .ok (.ifCond .eq 15, 3) := by decide +kernel
theorem dX9_mark_28 : decode cX9_mark 28 = .ok (.iload 4, 2) := by decide +kernel
theorem dX9_mark_30 : decode cX9_mark 30 = .ok (.bipush (-99), 2) := by decide +kernel
theorem dX9_mark_32 : decode cX9_mark 32 = .ok (.bipush 99, 2) := by decide +kernel
theorem dX9_mark_34 : decode cX9_mark 34 = .ok (.invokestatic 92, 3) := by decide +kernel
theorem dX9_mark_37 : decode cX9_mark 37 = .ok (.ifCond .ne 6, 3) := by decide +kernel
theorem dX9_mark_40 : decode cX9_mark 40 = .ok (.ldc 96, 2) := by decide +kernel
theorem dX9_mark_42 : decode cX9_mark 42 = .ok (.ireturn, 1) := by decide +kernel
theorem dX9_mark_43 : decode cX9_mark 43 = .ok (.aload_n 0, 1) := by decide +kernel
theorem dX9_mark_44 : decode cX9_mark 44 = .ok (.getfield 72, 3) := by decide +kernel
theorem dX9_mark_47 : decode cX9_mark 47 = .ok (.getfield 97, 3) := by decide +kernel
theorem dX9_mark_50 : decode cX9_mark 50 = .ok (.bipush 24, 2) := by decide +kernel
theorem dX9_mark_52 : decode cX9_mark 52 = .ok (.if_icmp .lt 8, 3) := by decide +kernel
theorem dX9_mark_55 : decode cX9_mark 55 = .ok (.ldc 100, 2) := by decide +kernel
theorem dX9_mark_57 : decode cX9_mark 57 = .ok (.goto 15, 3) := by decide +kernel
theorem dX9_mark_60 : decode cX9_mark 60 = .ok (.aload_n 0, 1) := by decide +kernel
theorem dX9_mark_61 : decode cX9_mark 61 = .ok (.getfield 72, 3) := by decide +kernel
theorem dX9_mark_64 : decode cX9_mark 64 = .ok (.iload_n 1, 1) := by decide +kernel
theorem dX9_mark_65 : decode cX9_mark 65 = .ok (.iload_n 2, 1) := by decide +kernel
theorem dX9_mark_66 : decode cX9_mark 66 = .ok (.iload_n 3, 1) := by decide +kernel
theorem dX9_mark_67 : decode cX9_mark 67 = .ok (.iload 4, 2) := by decide +kernel
theorem dX9_mark_69 : decode cX9_mark 69 = .ok (.invokevirtual 101, 3) := by decide +kernel
theorem dX9_mark_72 : decode cX9_mark 72 = .ok (.ireturn, 1) := by decide +kernel
theorem dX9_told_0 : decode cX9_told 0 = .ok (.iload_n 1, 1) := by decide +kernel
theorem dX9_told_1 : decode cX9_told 1 = .ok (.aload_n 0, 1) := by decide +kernel
theorem dX9_told_2 : decode cX9_told 2 = .ok (.getfield 72, 3) := by decide +kernel
theorem dX9_told_5 : decode cX9_told 5 = .ok (.getfield 97, 3) := by decide +kernel
theorem dX9_told_8 : decode cX9_told 8 = .ok (.invokestatic 84, 3) := by decide +kernel
theorem dX9_told_11 : decode cX9_told 11 = .ok (.ifCond .ne 6, 3) := by decide +kernel
theorem dX9_told_14 : decode cX9_told 14 = .ok (.ldc 96, 2) := by decide +kernel
theorem dX9_told_16 : decode cX9_told 16 = .ok (.ireturn, 1) := by decide +kernel
theorem dX9_told_17 : decode cX9_told 17 = .ok (.aload_n 0, 1) := by decide +kernel
theorem dX9_told_18 : decode cX9_told 18 = .ok (.getfield 72, 3) := by decide +kernel
theorem dX9_told_21 : decode cX9_told 21 = .ok (.getfield 105, 3) := by decide +kernel
theorem dX9_told_24 : decode cX9_told 24 = .ok (.iload_n 1, 1) := by decide +kernel
theorem dX9_told_25 : decode cX9_told 25 = .ok (.aaload, 1) := by decide +kernel
theorem dX9_told_26 : decode cX9_told 26 = .ok (.astore_n 3, 1) := by decide +kernel
theorem dX9_told_27 : decode cX9_told 27 = .ok (.iload_n 2, 1) := by decide +kernel
theorem dX9_told_28 : decode cX9_told 28 = .ok (.tableswitch 152 0 12 #[68, 73, 78, 83, 88, 93, 98, 107, 112, 120, 125, 134, 143], 68) := by decide +kernel
theorem dX9_told_96 : decode cX9_told 96 = .ok (.aload_n 3, 1) := by decide +kernel
theorem dX9_told_97 : decode cX9_told 97 = .ok (.getfield 109, 3) := by decide +kernel
theorem dX9_told_100 : decode cX9_told 100 = .ok (.ireturn, 1) := by decide +kernel
theorem dX9_told_101 : decode cX9_told 101 = .ok (.aload_n 3, 1) := by decide +kernel
theorem dX9_told_102 : decode cX9_told 102 = .ok (.getfield 114, 3) := by decide +kernel
theorem dX9_told_105 : decode cX9_told 105 = .ok (.ireturn, 1) := by decide +kernel
theorem dX9_told_106 : decode cX9_told 106 = .ok (.aload_n 3, 1) := by decide +kernel
theorem dX9_told_107 : decode cX9_told 107 = .ok (.getfield 117, 3) := by decide +kernel
theorem dX9_told_110 : decode cX9_told 110 = .ok (.ireturn, 1) := by decide +kernel
theorem dX9_told_111 : decode cX9_told 111 = .ok (.aload_n 3, 1) := by decide +kernel
theorem dX9_told_112 : decode cX9_told 112 = .ok (.getfield 120, 3) := by decide +kernel
theorem dX9_told_115 : decode cX9_told 115 = .ok (.ireturn, 1) := by decide +kernel
theorem dX9_told_116 : decode cX9_told 116 = .ok (.aload_n 3, 1) := by decide +kernel
theorem dX9_told_117 : decode cX9_told 117 = .ok (.getfield 123, 3) := by decide +kernel
theorem dX9_told_120 : decode cX9_told 120 = .ok (.ireturn, 1) := by decide +kernel
theorem dX9_told_121 : decode cX9_told 121 = .ok (.aload_n 3, 1) := by decide +kernel
theorem dX9_told_122 : decode cX9_told 122 = .ok (.getfield 126, 3) := by decide +kernel
theorem dX9_told_125 : decode cX9_told 125 = .ok (.ireturn, 1) := by decide +kernel
theorem dX9_told_126 : decode cX9_told 126 = .ok (.aload_n 0, 1) := by decide +kernel
theorem dX9_told_127 : decode cX9_told 127 = .ok (.getfield 72, 3) := by decide +kernel
theorem dX9_told_130 : decode cX9_told 130 = .ok (.aload_n 3, 1) := by decide +kernel
theorem dX9_told_131 : decode cX9_told 131 = .ok (.invokevirtual 129, 3) := by decide +kernel
theorem dX9_told_134 : decode cX9_told 134 = .ok (.ireturn, 1) := by decide +kernel
theorem dX9_told_135 : decode cX9_told 135 = .ok (.aload_n 3, 1) := by decide +kernel
theorem dX9_told_136 : decode cX9_told 136 = .ok (.invokevirtual 133, 3) := by decide +kernel
theorem dX9_told_139 : decode cX9_told 139 = .ok (.ireturn, 1) := by decide +kernel
theorem dX9_told_140 : decode cX9_told 140 = .ok (.aload_n 3, 1) := by decide +kernel
theorem dX9_told_141 : decode cX9_told 141 = .ok (.getfield 109, 3) := by decide +kernel
theorem dX9_told_144 : decode cX9_told 144 = .ok (.invokestatic 137, 3) := by decide +kernel
theorem dX9_told_147 : decode cX9_told 147 = .ok (.ireturn, 1) := by decide +kernel
theorem dX9_told_148 : decode cX9_told 148 = .ok (.aload_n 3, 1) := by decide +kernel
theorem dX9_told_149 : decode cX9_told 149 = .ok (.getfield 141, 3) := by decide +kernel
theorem dX9_told_152 : decode cX9_told 152 = .ok (.ireturn, 1) := by decide +kernel
theorem dX9_told_153 : decode cX9_told 153 = .ok (.aload_n 0, 1) := by decide +kernel
theorem dX9_told_154 : decode cX9_told 154 = .ok (.getfield 72, 3) := by decide +kernel
theorem dX9_told_157 : decode cX9_told 157 = .ok (.aload_n 3, 1) := by decide +kernel
theorem dX9_told_158 : decode cX9_told 158 = .ok (.invokevirtual 144, 3) := by decide +kernel
theorem dX9_told_161 : decode cX9_told 161 = .ok (.ireturn, 1) := by decide +kernel
theorem dX9_told_162 : decode cX9_told 162 = .ok (.aload_n 0, 1) := by decide +kernel
theorem dX9_told_163 : decode cX9_told 163 = .ok (.getfield 72, 3) := by decide +kernel
theorem dX9_told_166 : decode cX9_told 166 = .ok (.aload_n 3, 1) := by decide +kernel
theorem dX9_told_167 : decode cX9_told 167 = .ok (.invokevirtual 147, 3) := by decide +kernel
theorem dX9_told_170 : decode cX9_told 170 = .ok (.ireturn, 1) := by decide +kernel
theorem dX9_told_171 : decode cX9_told 171 = .ok (.aload_n 0, 1) := by decide +kernel
theorem dX9_told_172 : decode cX9_told 172 = .ok (.getfield 72, 3) := by decide +kernel
theorem dX9_told_175 : decode cX9_told 175 = .ok (.aload_n 3, 1) := by decide +kernel
theorem dX9_told_176 : decode cX9_told 176 = .ok (.invokevirtual 150, 3) := by decide +kernel
theorem dX9_told_179 : decode cX9_told 179 = .ok (.ireturn, 1) := by decide +kernel
theorem dX9_told_180 : decode cX9_told 180 = .ok (.ldc 96, 2) := by decide +kernel
theorem dX9_told_182 : decode cX9_told 182 = .ok (.ireturn, 1) := by decide +kernel
theorem dX9_as_0 : decode cX9_as 0 = .ok (.iload_n 1, 1) := by decide +kernel
theorem dX9_as_1 : decode cX9_as 1 = .ok (.aload_n 0, 1) := by decide +kernel
theorem dX9_as_2 : decode cX9_as 2 = .ok (.getfield 72, 3) := by decide +kernel
theorem dX9_as_5 : decode cX9_as 5 = .ok (.getfield 97, 3) := by decide +kernel
theorem dX9_as_8 : decode cX9_as 8 = .ok (.invokestatic 84, 3) := by decide +kernel
theorem dX9_as_11 : decode cX9_as 11 = .ok (.ifCond .eq 14, 3) := by decide +kernel
theorem dX9_as_14 : decode cX9_as 14 = .ok (.iload_n 2, 1) := by decide +kernel
theorem dX9_as_15 : decode cX9_as 15 = .ok (.getstatic 81, 3) := by decide +kernel
theorem dX9_as_18 : decode cX9_as 18 = .ok (.arraylength, 1) := by decide +kernel
theorem dX9_as_19 : decode cX9_as 19 = .ok (.invokestatic 84, 3) := by decide +kernel
theorem dX9_as_22 : decode cX9_as 22 = .ok (.ifCond .ne 6, 3) := by decide +kernel
theorem dX9_as_25 : decode cX9_as 25 = .ok (.ldc 96, 2) := by decide +kernel
theorem dX9_as_27 : decode cX9_as 27 = .ok (.ireturn, 1) := by decide +kernel
theorem dX9_as_28 : decode cX9_as 28 = .ok (.aload_n 0, 1) := by decide +kernel
theorem dX9_as_29 : decode cX9_as 29 = .ok (.getfield 72, 3) := by decide +kernel
theorem dX9_as_32 : decode cX9_as 32 = .ok (.getfield 105, 3) := by decide +kernel
theorem dX9_as_35 : decode cX9_as 35 = .ok (.iload_n 1, 1) := by decide +kernel
theorem dX9_as_36 : decode cX9_as 36 = .ok (.aaload, 1) := by decide +kernel
theorem dX9_as_37 : decode cX9_as 37 = .ok (.astore_n 3, 1) := by decide +kernel
theorem dX9_as_38 : decode cX9_as 38 = .ok (.aload_n 3, 1) := by decide +kernel
theorem dX9_as_39 : decode cX9_as 39 = .ok (.getfield 109, 3) := by decide +kernel
theorem dX9_as_42 : decode cX9_as 42 = .ok (.iload_n 2, 1) := by decide +kernel
theorem dX9_as_43 : decode cX9_as 43 = .ok (.invokestatic 153, 3) := by decide +kernel
theorem dX9_as_46 : decode cX9_as 46 = .ok (.ifCond .eq 10, 3) := by decide +kernel
theorem dX9_as_49 : decode cX9_as 49 = .ok (.aload_n 3, 1) := by decide +kernel
theorem dX9_as_50 : decode cX9_as 50 = .ok (.getfield 120, 3) := by decide +kernel
theorem dX9_as_53 : decode cX9_as 53 = .ok (.goto 5, 3) := by decide +kernel
theorem dX9_as_56 : decode cX9_as 56 = .ok (.ldc 156, 2) := by decide +kernel
theorem dX9_as_58 : decode cX9_as 58 = .ok (.ireturn, 1) := by decide +kernel
theorem dX9_put_0 : decode cX9_put 0 = .ok (.iload_n 1, 1) := by decide +kernel
theorem dX9_put_1 : decode cX9_put 1 = .ok (.aload_n 0, 1) := by decide +kernel
theorem dX9_put_2 : decode cX9_put 2 = .ok (.getfield 72, 3) := by decide +kernel
theorem dX9_put_5 : decode cX9_put 5 = .ok (.getfield 97, 3) := by decide +kernel
theorem dX9_put_8 : decode cX9_put 8 = .ok (.invokestatic 84, 3) := by decide +kernel
theorem dX9_put_11 : decode cX9_put 11 = .ok (.ifCond .eq 13, 3) := by decide +kernel
theorem dX9_put_14 : decode cX9_put 14 = .ok (.iload_n 2, 1) := by decide +kernel
theorem dX9_put_15 : decode cX9_put 15 = .ok (.iconst (-1), 1) := by decide +kernel
theorem dX9_put_16 : decode cX9_put 16 = .ok (.bipush 8, 2) := by decide +kernel
theorem dX9_put_18 : decode cX9_put 18 = .ok (.invokestatic 92, 3) := by decide +kernel
theorem dX9_put_21 : decode cX9_put 21 = .ok (.ifCond .ne 6, 3) := by decide +kernel
theorem dX9_put_24 : decode cX9_put 24 = .ok (.ldc 96, 2) := by decide +kernel
theorem dX9_put_26 : decode cX9_put 26 = .ok (.ireturn, 1) := by decide +kernel
theorem dX9_put_27 : decode cX9_put 27 = .ok (.aload_n 0, 1) := by decide +kernel
theorem dX9_put_28 : decode cX9_put 28 = .ok (.getfield 72, 3) := by decide +kernel
theorem dX9_put_31 : decode cX9_put 31 = .ok (.getfield 105, 3) := by decide +kernel
theorem dX9_put_34 : decode cX9_put 34 = .ok (.iload_n 1, 1) := by decide +kernel
theorem dX9_put_35 : decode cX9_put 35 = .ok (.aaload, 1) := by decide +kernel
theorem dX9_put_36 : decode cX9_put 36 = .ok (.astore_n 3, 1) := by decide +kernel
theorem dX9_put_37 : decode cX9_put 37 = .ok (.aload_n 3, 1) := by decide +kernel
theorem dX9_put_38 : decode cX9_put 38 = .ok (.getfield 126, 3) := by decide +kernel
theorem dX9_put_41 : decode cX9_put 41 = .ok (.istore 4, 2) := by decide +kernel
theorem dX9_put_43 : decode cX9_put 43 = .ok (.aload_n 3, 1) := by decide +kernel
theorem dX9_put_44 : decode cX9_put 44 = .ok (.iload_n 2, 1) := by decide +kernel
theorem dX9_put_45 : decode cX9_put 45 = .ok (.ifCond .ge 8, 3) := by decide +kernel
theorem dX9_put_48 : decode cX9_put 48 = .ok (.ldc 157, 2) := by decide +kernel
theorem dX9_put_50 : decode cX9_put 50 = .ok (.goto 4, 3) := by decide +kernel
theorem dX9_put_53 : decode cX9_put 53 = .ok (.iload_n 2, 1) := by decide +kernel
theorem dX9_put_54 : decode cX9_put 54 = .ok (.putfield 126, 3) := by decide +kernel
theorem dX9_put_57 : decode cX9_put 57 = .ok (.iload 4, 2) := by decide +kernel
theorem dX9_put_59 : decode cX9_put 59 = .ok (.ireturn, 1) := by decide +kernel
theorem dX9_name_0 : decode cX9_name 0 = .ok (.iload_n 1, 1) := by decide +kernel
theorem dX9_name_1 : decode cX9_name 1 = .ok (.aload_n 0, 1) := by decide +kernel
theorem dX9_name_2 : decode cX9_name 2 = .ok (.getfield 72, 3) := by decide +kernel
theorem dX9_name_5 : decode cX9_name 5 = .ok (.getfield 97, 3) := by decide +kernel
theorem dX9_name_8 : decode cX9_name 8 = .ok (.invokestatic 84, 3) := by decide +kernel
theorem dX9_name_11 : decode cX9_name 11 = .ok (.ifCond .eq 12, 3) := by decide +kernel
theorem dX9_name_14 : decode cX9_name 14 = .ok (.iload_n 2, 1) := by decide +kernel
theorem dX9_name_15 : decode cX9_name 15 = .ok (.bipush 10, 2) := by decide +kernel
theorem dX9_name_17 : decode cX9_name 17 = .ok (.invokestatic 84, 3) := by decide +kernel
theorem dX9_name_20 : decode cX9_name 20 = .ok (.ifCond .ne 6, 3) := by decide +kernel
theorem dX9_name_23 : decode cX9_name 23 = .ok (.ldc 96, 2) := by decide +kernel
theorem dX9_name_25 : decode cX9_name 25 = .ok (.ireturn, 1) := by decide +kernel
theorem dX9_name_26 : decode cX9_name 26 = .ok (.aload_n 0, 1) := by decide +kernel
theorem dX9_name_27 : decode cX9_name 27 = .ok (.getfield 72, 3) := by decide +kernel
theorem dX9_name_30 : decode cX9_name 30 = .ok (.getfield 105, 3) := by decide +kernel
theorem dX9_name_33 : decode cX9_name 33 = .ok (.iload_n 1, 1) := by decide +kernel
theorem dX9_name_34 : decode cX9_name 34 = .ok (.aaload, 1) := by decide +kernel
theorem dX9_name_35 : decode cX9_name 35 = .ok (.astore_n 3, 1) := by decide +kernel
theorem dX9_name_36 : decode cX9_name 36 = .ok (.aload_n 3, 1) := by decide +kernel
theorem dX9_name_37 : decode cX9_name 37 = .ok (.getfield 109, 3) := by decide +kernel
theorem dX9_name_40 : decode cX9_name 40 = .ok (.bipush 6, 2) := by decide +kernel
theorem dX9_name_42 : decode cX9_name 42 = .ok (.invokestatic 153, 3) := by decide +kernel
theorem dX9_name_45 : decode cX9_name 45 = .ok (.ifCond .ne 6, 3) := by decide +kernel
theorem dX9_name_48 : decode cX9_name 48 = .ok (.ldc 156, 2) := by decide +kernel
theorem dX9_name_50 : decode cX9_name 50 = .ok (.ireturn, 1) := by decide +kernel
theorem dX9_name_51 : decode cX9_name 51 = .ok (.aload_n 3, 1) := by decide +kernel
theorem dX9_name_52 : decode cX9_name 52 = .ok (.getfield 141, 3) := by decide +kernel
theorem dX9_name_55 : decode cX9_name 55 = .ok (.istore 4, 2) := by decide +kernel
theorem dX9_name_57 : decode cX9_name 57 = .ok (.aload_n 3, 1) := by decide +kernel
theorem dX9_name_58 : decode cX9_name 58 = .ok (.iload_n 2, 1) := by decide +kernel
theorem dX9_name_59 : decode cX9_name 59 = .ok (.putfield 141, 3) := by decide +kernel
theorem dX9_name_62 : decode cX9_name 62 = .ok (.iload 4, 2) := by decide +kernel
theorem dX9_name_64 : decode cX9_name 64 = .ok (.ireturn, 1) := by decide +kernel
theorem dX9_feed_0 : decode cX9_feed 0 = .ok (.aload_n 0, 1) := by decide +kernel
theorem dX9_feed_1 : decode cX9_feed 1 = .ok (.getfield 10, 3) := by decide +kernel
theorem dX9_feed_4 : decode cX9_feed 4 = .ok (.getfield 158, 3) := by decide +kernel
theorem dX9_feed_7 : decode cX9_feed 7 = .ok (.bipush 12, 2) := by decide +kernel
theorem dX9_feed_9 : decode cX9_feed 9 = .ok (.iadd, 1) := by decide +kernel
theorem dX9_feed_10 : decode cX9_feed 10 = .ok (.bipush 96, 2) := by decide +kernel
theorem dX9_feed_12 : decode cX9_feed 12 = .ok (.if_icmp .le 6, 3) := by decide +kernel
theorem dX9_feed_15 : decode cX9_feed 15 = .ok (.ldc 100, 2) := by decide +kernel
theorem dX9_feed_17 : decode cX9_feed 17 = .ok (.ireturn, 1) := by decide +kernel
theorem dX9_feed_18 : decode cX9_feed 18 = .ok (.aload_n 0, 1) := by decide +kernel
theorem dX9_feed_19 : decode cX9_feed 19 = .ok (.getfield 10, 3) := by decide +kernel
theorem dX9_feed_22 : decode cX9_feed 22 = .ok (.iload_n 1, 1) := by decide +kernel
theorem dX9_feed_23 : decode cX9_feed 23 = .ok (.invokevirtual 161, 3) := by decide +kernel
theorem dX9_feed_26 : decode cX9_feed 26 = .ok (.aload_n 0, 1) := by decide +kernel
theorem dX9_feed_27 : decode cX9_feed 27 = .ok (.getfield 10, 3) := by decide +kernel
theorem dX9_feed_30 : decode cX9_feed 30 = .ok (.iload_n 2, 1) := by decide +kernel
theorem dX9_feed_31 : decode cX9_feed 31 = .ok (.invokevirtual 161, 3) := by decide +kernel
theorem dX9_feed_34 : decode cX9_feed 34 = .ok (.aload_n 0, 1) := by decide +kernel
theorem dX9_feed_35 : decode cX9_feed 35 = .ok (.getfield 10, 3) := by decide +kernel
theorem dX9_feed_38 : decode cX9_feed 38 = .ok (.iload_n 3, 1) := by decide +kernel
theorem dX9_feed_39 : decode cX9_feed 39 = .ok (.invokevirtual 161, 3) := by decide +kernel
theorem dX9_feed_42 : decode cX9_feed 42 = .ok (.aload_n 0, 1) := by decide +kernel
theorem dX9_feed_43 : decode cX9_feed 43 = .ok (.getfield 10, 3) := by decide +kernel
theorem dX9_feed_46 : decode cX9_feed 46 = .ok (.getfield 158, 3) := by decide +kernel
theorem dX9_feed_49 : decode cX9_feed 49 = .ok (.ireturn, 1) := by decide +kernel
theorem dX9_trim_0 : decode cX9_trim 0 = .ok (.iload_n 1, 1) := by decide +kernel
theorem dX9_trim_1 : decode cX9_trim 1 = .ok (.iconst 0, 1) := by decide +kernel
theorem dX9_trim_2 : decode cX9_trim 2 = .ok (.aload_n 0, 1) := by decide +kernel
theorem dX9_trim_3 : decode cX9_trim 3 = .ok (.getfield 10, 3) := by decide +kernel
theorem dX9_trim_6 : decode cX9_trim 6 = .ok (.getfield 158, 3) := by decide +kernel
theorem dX9_trim_9 : decode cX9_trim 9 = .ok (.invokestatic 92, 3) := by decide +kernel
theorem dX9_trim_12 : decode cX9_trim 12 = .ok (.ifCond .ne 6, 3) := by decide +kernel
theorem dX9_trim_15 : decode cX9_trim 15 = .ok (.ldc 96, 2) := by decide +kernel
theorem dX9_trim_17 : decode cX9_trim 17 = .ok (.ireturn, 1) := by decide +kernel
theorem dX9_trim_18 : decode cX9_trim 18 = .ok (.aload_n 0, 1) := by decide +kernel
theorem dX9_trim_19 : decode cX9_trim 19 = .ok (.getfield 10, 3) := by decide +kernel
theorem dX9_trim_22 : decode cX9_trim 22 = .ok (.iload_n 1, 1) := by decide +kernel
theorem dX9_trim_23 : decode cX9_trim 23 = .ok (.putfield 158, 3) := by decide +kernel
theorem dX9_trim_26 : decode cX9_trim 26 = .ok (.iload_n 1, 1) := by decide +kernel
theorem dX9_trim_27 : decode cX9_trim 27 = .ok (.ireturn, 1) := by decide +kernel
theorem dX9_law_0 : decode cX9_law 0 = .ok (.aload_n 0, 1) := by decide +kernel
theorem dX9_law_1 : decode cX9_law 1 = .ok (.getfield 10, 3) := by decide +kernel
theorem dX9_law_4 : decode cX9_law 4 = .ok (.invokevirtual 165, 3) := by decide +kernel
theorem dX9_law_7 : decode cX9_law 7 = .ok (.istore_n 1, 1) := by decide +kernel
theorem dX9_law_8 : decode cX9_law 8 = .ok (.aload_n 0, 1) := by decide +kernel
theorem dX9_law_9 : decode cX9_law 9 = .ok (.getfield 10, 3) := by decide +kernel
theorem dX9_law_12 : decode cX9_law 12 = .ok (.iconst 0, 1) := by decide +kernel
theorem dX9_law_13 : decode cX9_law 13 = .ok (.putfield 158, 3) := by decide +kernel
theorem dX9_law_16 : decode cX9_law 16 = .ok (.iload_n 1, 1) := by decide +kernel
