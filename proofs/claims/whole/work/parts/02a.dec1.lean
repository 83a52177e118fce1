theorem dX9_law_17 : decode cX9_law 17 = .ok (.ifCond .ne 14, 3) := by decide +kernel
theorem dX9_law_20 : decode cX9_law 20 = .ok (.bipush (-100), 2) := by decide +kernel
theorem dX9_law_22 : decode cX9_law 22 = .ok (.aload_n 0, 1) := by decide +kernel
theorem dX9_law_23 : decode cX9_law 23 = .ok (.getfield 10, 3) := by decide +kernel
theorem dX9_law_26 : decode cX9_law 26 = .ok (.getfield 169, 3) := by decide +kernel
theorem dX9_law_29 : decode cX9_law 29 = .ok (.isub, 1) := by decide +kernel
theorem dX9_law_30 : decode cX9_law 30 = .ok (.ireturn, 1) := by decide +kernel
theorem dX9_law_31 : decode cX9_law 31 = .ok (.aload_n 0, 1) := by decide +kernel
theorem dX9_law_32 : decode cX9_law 32 = .ok (.getfield 72, 3) := by decide +kernel
theorem dX9_law_35 : decode cX9_law 35 = .ok (.getfield 172, 3) := by decide +kernel
theorem dX9_law_38 : decode cX9_law 38 = .ok (.bipush 14, 2) := by decide +kernel
theorem dX9_law_40 : decode cX9_law 40 = .ok (.if_icmp .lt 6, 3) := by decide +kernel
theorem dX9_law_43 : decode cX9_law 43 = .ok (.ldc 100, 2) := by decide +kernel
theorem dX9_law_45 : decode cX9_law 45 = .ok (.ireturn, 1) := by decide +kernel
theorem dX9_law_46 : decode cX9_law 46 = .ok (.aload_n 0, 1) := by decide +kernel
theorem dX9_law_47 : decode cX9_law 47 = .ok (.getfield 72, 3) := by decide +kernel
theorem dX9_law_50 : decode cX9_law 50 = .ok (.getfield 175, 3) := by decide +kernel
theorem dX9_law_53 : decode cX9_law 53 = .ok (.aload_n 0, 1) := by decide +kernel
theorem dX9_law_54 : decode cX9_law 54 = .ok (.getfield 72, 3) := by decide +kernel
theorem dX9_law_57 : decode cX9_law 57 = .ok (.getfield 172, 3) := by decide +kernel
theorem dX9_law_60 : decode cX9_law 60 = .ok (.aaload, 1) := by decide +kernel
theorem dX9_law_61 : decode cX9_law 61 = .ok (.aload_n 0, 1) := by decide +kernel
theorem dX9_law_62 : decode cX9_law 62 = .ok (.getfield 10, 3) := by decide +kernel
theorem dX9_law_65 : decode cX9_law 65 = .ok (.invokevirtual 179, 3) := by decide +kernel
theorem dX9_law_68 : decode cX9_law 68 = .ok (.aload_n 0, 1) := by decide +kernel
theorem dX9_law_69 : decode cX9_law 69 = .ok (.getfield 72, 3) := by decide +kernel
theorem dX9_law_72 : decode cX9_law 72 = .ok (.dup, 1) := by decide +kernel
theorem dX9_law_73 : decode cX9_law 73 = .ok (.getfield 172, 3) := by decide +kernel
theorem dX9_law_76 : decode cX9_law 76 = .ok (.iconst 1, 1) := by decide +kernel
theorem dX9_law_77 : decode cX9_law 77 = .ok (.iadd, 1) := by decide +kernel
theorem dX9_law_78 : decode cX9_law 78 = .ok (.putfield 172, 3) := by decide +kernel
theorem dX9_law_81 : decode cX9_law 81 = .ok (.aload_n 0, 1) := by decide +kernel
theorem dX9_law_82 : decode cX9_law 82 = .ok (.getfield 72, 3) := by decide +kernel
theorem dX9_law_85 : decode cX9_law 85 = .ok (.getfield 172, 3) := by decide +kernel
theorem dX9_law_88 : decode cX9_law 88 = .ok (.iconst 1, 1) := by decide +kernel
theorem dX9_law_89 : decode cX9_law 89 = .ok (.isub, 1) := by decide +kernel
theorem dX9_law_90 : decode cX9_law 90 = .ok (.ireturn, 1) := by decide +kernel
theorem dX9_of_0 : decode cX9_of 0 = .ok (.iload_n 1, 1) := by decide +kernel
theorem dX9_of_1 : decode cX9_of 1 = .ok (.aload_n 0, 1) := by decide +kernel
theorem dX9_of_2 : decode cX9_of 2 = .ok (.getfield 72, 3) := by decide +kernel
theorem dX9_of_5 : decode cX9_of 5 = .ok (.getfield 172, 3) := by decide +kernel
theorem dX9_of_8 : decode cX9_of 8 = .ok (.invokestatic 84, 3) := by decide +kernel
theorem dX9_of_11 : decode cX9_of 11 = .ok (.ifCond .ne 6, 3) := by decide +kernel
theorem dX9_of_14 : decode cX9_of 14 = .ok (.ldc 96, 2) := by decide +kernel
theorem dX9_of_16 : decode cX9_of 16 = .ok (.ireturn, 1) := by decide +kernel
theorem dX9_of_17 : decode cX9_of 17 = .ok (.aload_n 0, 1) := by decide +kernel
theorem dX9_of_18 : decode cX9_of 18 = .ok (.getfield 72, 3) := by decide +kernel
theorem dX9_of_21 : decode cX9_of 21 = .ok (.getfield 175, 3) := by decide +kernel
theorem dX9_of_24 : decode cX9_of 24 = .ok (.iload_n 1, 1) := by decide +kernel
theorem dX9_of_25 : decode cX9_of 25 = .ok (.aaload, 1) := by decide +kernel
theorem dX9_of_26 : decode cX9_of 26 = .ok (.astore_n 3, 1) := by decide +kernel
theorem dX9_of_27 : decode cX9_of 27 = .ok (.iload_n 2, 1) := by decide +kernel
theorem dX9_of_28 : decode cX9_of 28 = .ok (.tableswitch 43 0 2 #[28, 33, 38], 28) := by decide +kernel
theorem dX9_of_56 : decode cX9_of 56 = .ok (.aload_n 3, 1) := by decide +kernel
theorem dX9_of_57 : decode cX9_of 57 = .ok (.getfield 183, 3) := by decide +kernel
theorem dX9_of_60 : decode cX9_of 60 = .ok (.ireturn, 1) := by decide +kernel
theorem dX9_of_61 : decode cX9_of 61 = .ok (.aload_n 3, 1) := by decide +kernel
theorem dX9_of_62 : decode cX9_of 62 = .ok (.getfield 186, 3) := by decide +kernel
theorem dX9_of_65 : decode cX9_of 65 = .ok (.ireturn, 1) := by decide +kernel
theorem dX9_of_66 : decode cX9_of 66 = .ok (.aload_n 3, 1) := by decide +kernel
theorem dX9_of_67 : decode cX9_of 67 = .ok (.getfield 187, 3) := by decide +kernel
theorem dX9_of_70 : decode cX9_of 70 = .ok (.ireturn, 1) := by decide +kernel
theorem dX9_of_71 : decode cX9_of 71 = .ok (.ldc 96, 2) := by decide +kernel
theorem dX9_of_73 : decode cX9_of 73 = .ok (.ireturn, 1) := by decide +kernel
theorem dX9_why_0 : decode cX9_why 0 = .ok (.iload_n 1, 1) := by decide +kernel
theorem dX9_why_1 : decode cX9_why 1 = .ok (.iconst 3, 1) := by decide +kernel
theorem dX9_why_2 : decode cX9_why 2 = .ok (.invokestatic 84, 3) := by decide +kernel
theorem dX9_why_5 : decode cX9_why 5 = .ok (.ifCond .eq 11, 3) := by decide +kernel
theorem dX9_why_8 : decode cX9_why 8 = .ok (.iload_n 2, 1) := by decide +kernel
theorem dX9_why_9 : decode cX9_why 9 = .ok (.iconst 3, 1) := by decide +kernel
theorem dX9_why_10 : decode cX9_why 10 = .ok (.invokestatic 84, 3) := by decide +kernel
theorem dX9_why_13 : decode cX9_why 13 = .ok (.ifCond .ne 6, 3) := by decide +kernel
theorem dX9_why_16 : decode cX9_why 16 = .ok (.ldc 96, 2) := by decide +kernel
theorem dX9_why_18 : decode cX9_why 18 = .ok (.ireturn, 1) := by decide +kernel
theorem dX9_why_19 : decode cX9_why 19 = .ok (.aload_n 0, 1) := by decide +kernel
theorem dX9_why_20 : decode cX9_why 20 = .ok (.getfield 72, 3) := by decide +kernel
theorem dX9_why_23 : decode cX9_why 23 = .ok (.iload_n 1, 1) := by decide +kernel
theorem dX9_why_24 : decode cX9_why 24 = .ok (.iload_n 2, 1) := by decide +kernel
theorem dX9_why_25 : decode cX9_why 25 = .ok (.invokevirtual 190, 3) := by decide +kernel
theorem dX9_why_28 : decode cX9_why 28 = .ok (.ireturn, 1) := by decide +kernel
theorem dX9_cape_0 : decode cX9_cape 0 = .ok (.iload_n 1, 1) := by decide +kernel
theorem dX9_cape_1 : decode cX9_cape 1 = .ok (.bipush 9, 2) := by decide +kernel
theorem dX9_cape_3 : decode cX9_cape 3 = .ok (.invokestatic 84, 3) := by decide +kernel
theorem dX9_cape_6 : decode cX9_cape 6 = .ok (.ifCond .eq 13, 3) := by decide +kernel
theorem dX9_cape_9 : decode cX9_cape 9 = .ok (.iload_n 2, 1) := by decide +kernel
theorem dX9_cape_10 : decode cX9_cape 10 = .ok (.iconst 0, 1) := by decide +kernel
theorem dX9_cape_11 : decode cX9_cape 11 = .ok (.bipush 7, 2) := by decide +kernel
theorem dX9_cape_13 : decode cX9_cape 13 = .ok (.invokestatic 92, 3) := by decide +kernel
theorem dX9_cape_16 : decode cX9_cape 16 = .ok (.ifCond .ne 6, 3) := by decide +kernel
theorem dX9_cape_19 : decode cX9_cape 19 = .ok (.ldc 96, 2) := by decide +kernel
theorem dX9_cape_21 : decode cX9_cape 21 = .ok (.ireturn, 1) := by decide +kernel
theorem dX9_cape_22 : decode cX9_cape 22 = .ok (.aload_n 0, 1) := by decide +kernel
theorem dX9_cape_23 : decode cX9_cape 23 = .ok (.getfield 19, 3) := by decide +kernel
theorem dX9_cape_26 : decode cX9_cape 26 = .ok (.aload_n 0, 1) := by decide +kernel
theorem dX9_cape_27 : decode cX9_cape 27 = .ok (.getfield 72, 3) := by decide +kernel
theorem dX9_cape_30 : decode cX9_cape 30 = .ok (.iload_n 1, 1) := by decide +kernel
theorem dX9_cape_31 : decode cX9_cape 31 = .ok (.invokevirtual 194, 3) := by decide +kernel
theorem dX9_cape_34 : decode cX9_cape 34 = .ok (.aload_n 0, 1) := by decide +kernel
theorem dX9_cape_35 : decode cX9_cape 35 = .ok (.getfield 19, 3) := by decide +kernel
theorem dX9_cape_38 : decode cX9_cape 38 = .ok (.invokevirtual 198, 3) := by decide +kernel
theorem dX9_cape_41 : decode cX9_cape 41 = .ok (.ifCond .ne 15, 3) := by decide +kernel
theorem dX9_cape_44 : decode cX9_cape 44 = .ok (.iload_n 2, 1) := by decide +kernel
theorem dX9_cape_45 : decode cX9_cape 45 = .ok (.iconst 1, 1) := by decide +kernel
theorem dX9_cape_46 : decode cX9_cape 46 = .ok (.iconst 4, 1) := by decide +kernel
theorem dX9_cape_47 : decode cX9_cape 47 = .ok (.invokestatic 92, 3) := by decide +kernel
theorem dX9_cape_50 : decode cX9_cape 50 = .ok (.ifCond .eq 6, 3) := by decide +kernel
theorem dX9_cape_53 : decode cX9_cape 53 = .ok (.ldc 157, 2) := by decide +kernel
theorem dX9_cape_55 : decode cX9_cape 55 = .ok (.ireturn, 1) := by decide +kernel
theorem dX9_cape_56 : decode cX9_cape 56 = .ok (.iload_n 2, 1) := by decide +kernel
theorem dX9_cape_57 : decode cX9_cape 57 = .ok (.tableswitch 117 0 6 #[43, 51, 59, 67, 75, 93, 109], 43) := by decide +kernel
theorem dX9_cape_100 : decode cX9_cape 100 = .ok (.aload_n 0, 1) := by decide +kernel
theorem dX9_cape_101 : decode cX9_cape 101 = .ok (.getfield 19, 3) := by decide +kernel
theorem dX9_cape_104 : decode cX9_cape 104 = .ok (.getfield 201, 3) := by decide +kernel
theorem dX9_cape_107 : decode cX9_cape 107 = .ok (.ireturn, 1) := by decide +kernel
theorem dX9_cape_108 : decode cX9_cape 108 = .ok (.aload_n 0, 1) := by decide +kernel
theorem dX9_cape_109 : decode cX9_cape 109 = .ok (.getfield 19, 3) := by decide +kernel
theorem dX9_cape_112 : decode cX9_cape 112 = .ok (.getfield 203, 3) := by decide +kernel
theorem dX9_cape_115 : decode cX9_cape 115 = .ok (.ireturn, 1) := by decide +kernel
theorem dX9_cape_116 : decode cX9_cape 116 = .ok (.aload_n 0, 1) := by decide +kernel
theorem dX9_cape_117 : decode cX9_cape 117 = .ok (.getfield 19, 3) := by decide +kernel
theorem dX9_cape_120 : decode cX9_cape 120 = .ok (.getfield 206, 3) := by decide +kernel
theorem dX9_cape_123 : decode cX9_cape 123 = .ok (.ireturn, 1) := by decide +kernel
theorem dX9_cape_124 : decode cX9_cape 124 = .ok (.aload_n 0, 1) := by decide +kernel
theorem dX9_cape_125 : decode cX9_cape 125 = .ok (.getfield 19, 3) := by decide +kernel
theorem dX9_cape_128 : decode cX9_cape 128 = .ok (.invokevirtual 209, 3) := by decide +kernel
theorem dX9_cape_131 : decode cX9_cape 131 = .ok (.ireturn, 1) := by decide +kernel
theorem dX9_cape_132 : decode cX9_cape 132 = .ok (.aload_n 0, 1) := by decide +kernel
theorem dX9_cape_133 : decode cX9_cape 133 = .ok (.getfield 19, 3) := by decide +kernel
theorem dX9_cape_136 : decode cX9_cape 136 = .ok (.getfield 203, 3) := by decide +kernel
theorem dX9_cape_139 : decode cX9_cape 139 = .ok (.aload_n 0, 1) := by decide +kernel
theorem dX9_cape_140 : decode cX9_cape 140 = .ok (.getfield 19, 3) := by decide +kernel
theorem dX9_cape_143 : decode cX9_cape 143 = .ok (.getfield 206, 3) := by decide +kernel
theorem dX9_cape_146 : decode cX9_cape 146 = .ok (.iadd, 1) := by decide +kernel
theorem dX9_cape_147 : decode cX9_cape 147 = .ok (.iconst 2, 1) := by decide +kernel
theorem dX9_cape_148 : decode cX9_cape 148 = .ok (.idiv, 1) := by decide +kernel
theorem dX9_cape_149 : decode cX9_cape 149 = .ok (.ireturn, 1) := by decide +kernel
theorem dX9_cape_150 : decode cX9_cape 150 = .ok (.aload_n 0, 1) := by decide +kernel
theorem dX9_cape_151 : decode cX9_cape 151 = .ok (.getfield 19, 3) := by decide +kernel
theorem dX9_cape_154 : decode cX9_cape 154 = .ok (.invokevirtual 212, 3) := by decide +kernel
theorem dX9_cape_157 : decode cX9_cape 157 = .ok (.ifCond .eq 7, 3) := by decide +kernel
theorem dX9_cape_160 : decode cX9_cape 160 = .ok (.iconst 1, 1) := by decide +kernel
theorem dX9_cape_161 : decode cX9_cape 161 = .ok (.goto 4, 3) := by decide +kernel
theorem dX9_cape_164 : decode cX9_cape 164 = .ok (.iconst 0, 1) := by decide +kernel
theorem dX9_cape_165 : decode cX9_cape 165 = .ok (.ireturn, 1) := by decide +kernel
theorem dX9_cape_166 : decode cX9_cape 166 = .ok (.aload_n 0, 1) := by decide +kernel
theorem dX9_cape_167 : decode cX9_cape 167 = .ok (.getfield 19, 3) := by decide +kernel
theorem dX9_cape_170 : decode cX9_cape 170 = .ok (.getfield 215, 3) := by decide +kernel
theorem dX9_cape_173 : decode cX9_cape 173 = .ok (.ireturn, 1) := by decide +kernel
theorem dX9_cape_174 : decode cX9_cape 174 = .ok (.aload_n 0, 1) := by decide +kernel
theorem dX9_cape_175 : decode cX9_cape 175 = .ok (.getfield 19, 3) := by decide +kernel
theorem dX9_cape_178 : decode cX9_cape 178 = .ok (.invokevirtual 218, 3) := by decide +kernel
theorem dX9_cape_181 : decode cX9_cape 181 = .ok (.ifCond .eq 7, 3) := by decide +kernel
theorem dX9_cape_184 : decode cX9_cape 184 = .ok (.iconst 1, 1) := by decide +kernel
theorem dX9_cape_185 : decode cX9_cape 185 = .ok (.goto 4, 3) := by decide +kernel
theorem dX9_cape_188 : decode cX9_cape 188 = .ok (.iconst 0, 1) := by decide +kernel
theorem dX9_cape_189 : decode cX9_cape 189 = .ok (.ireturn, 1) := by decide +kernel
theorem dX9_capes_0 : decode cX9_capes 0 = .ok (.iload_n 1, 1) := by decide +kernel
theorem dX9_capes_1 : decode cX9_capes 1 = .ok (.iconst 0, 1) := by decide +kernel
theorem dX9_capes_2 : decode cX9_capes 2 = .ok (.iconst 2, 1) := by decide +kernel
theorem dX9_capes_3 : decode cX9_capes 3 = .ok (.invokestatic 92, 3) := by decide +kernel
theorem dX9_capes_6 : decode cX9_capes 6 = .ok (.ifCond .ne 6, 3) := by decide +kernel
theorem dX9_capes_9 : decode cX9_capes 9 = .ok (.ldc 96, 2) := by decide +kernel
theorem dX9_capes_11 : decode cX9_capes 11 = .ok (.ireturn, 1) := by decide +kernel
theorem dX9_capes_12 : decode cX9_capes 12 = .ok (.iconst 0, 1) := by decide +kernel
theorem dX9_capes_13 : decode cX9_capes 13 = .ok (.istore_n 2, 1) := by decide +kernel
theorem dX9_capes_14 : decode cX9_capes 14 = .ok (.iconst 0, 1) := by decide +kernel
theorem dX9_capes_15 : decode cX9_capes 15 = .ok (.istore_n 3, 1) := by decide +kernel
theorem dX9_capes_16 : decode cX9_capes 16 = .ok (.iload_n 3, 1) := by decide +kernel
theorem dX9_capes_17 : decode cX9_capes 17 = .ok (.bipush 9, 2) := by decide +kernel
theorem dX9_capes_19 : decode cX9_capes 19 = .ok (.if_icmp .ge 74, 3) := by decide +kernel
theorem dX9_capes_22 : decode cX9_capes 22 = .ok (.aload_n 0, 1) := by decide +kernel
theorem dX9_capes_23 : decode cX9_capes 23 = .ok (.getfield 19, 3) := by decide +kernel
theorem dX9_capes_26 : decode cX9_capes 26 = .ok (.aload_n 0, 1) := by decide +kernel
theorem dX9_capes_27 : decode cX9_capes 27 = .ok (.getfield 72, 3) := by decide +kernel
theorem dX9_capes_30 : decode cX9_capes 30 = .ok (.iload_n 3, 1) := by decide +kernel
theorem dX9_capes_31 : decode cX9_capes 31 = .ok (.invokevirtual 194, 3) := by decide +kernel
theorem dX9_capes_34 : decode cX9_capes 34 = .ok (.iload_n 1, 1) := by decide +kernel
theorem dX9_capes_35 : decode cX9_capes 35 = .ok (.ifCond .ne 13, 3) := by decide +kernel
theorem dX9_capes_38 : decode cX9_capes 38 = .ok (.aload_n 0, 1) := by decide +kernel
theorem dX9_capes_39 : decode cX9_capes 39 = .ok (.getfield 19, 3) := by decide +kernel
theorem dX9_capes_42 : decode cX9_capes 42 = .ok (.invokevirtual 198, 3) := by decide +kernel
theorem dX9_capes_45 : decode cX9_capes 45 = .ok (.goto 25, 3) := by decide +kernel
theorem dX9_capes_48 : decode cX9_capes 48 = .ok (.iload_n 1, 1) := by decide +kernel
theorem dX9_capes_49 : decode cX9_capes 49 = .ok (.iconst 1, 1) := by decide +kernel
theorem dX9_capes_50 : decode cX9_capes 50 = .ok (.if_icmp .ne 13, 3) := by decide +kernel
theorem dX9_capes_53 : decode cX9_capes 53 = .ok (.aload_n 0, 1) := by decide +kernel
theorem dX9_capes_54 : decode cX9_capes 54 = .ok (.getfield 19, 3) := by decide +kernel
theorem dX9_capes_57 : decode cX9_capes 57 = .ok (.invokevirtual 212, 3) := by decide +kernel
theorem dX9_capes_60 : decode cX9_capes 60 = .ok (.goto 10, 3) := by decide +kernel
theorem dX9_capes_63 : decode cX9_capes 63 = .ok (.aload_n 0, 1) := by decide +kernel
theorem dX9_capes_64 : decode cX9_capes 64 = .ok (.getfield 19, 3) := by decide +kernel
theorem dX9_capes_67 : decode cX9_capes 67 = .ok (.invokevirtual 218, 3) := by decide +kernel
theorem dX9_capes_70 : decode cX9_capes 70 = .ok (.istore 4, 2) := by decide +kernel
theorem dX9_capes_72 : decode cX9_capes 72 = .ok (.iload_n 2, 1) := by decide +kernel
theorem dX9_capes_73 : decode cX9_capes 73 = .ok (.iload 4, 2) := by decide +kernel
theorem dX9_capes_75 : decode cX9_capes 75 = .ok (.ifCond .eq 9, 3) := by decide +kernel
theorem dX9_capes_78 : decode cX9_capes 78 = .ok (.iconst 1, 1) := by decide +kernel
theorem dX9_capes_79 : decode cX9_capes 79 = .ok (.iload_n 3, 1) := by decide +kernel
theorem dX9_capes_80 : decode cX9_capes 80 = .ok (.ishl, 1) := by decide +kernel
theorem dX9_capes_81 : decode cX9_capes 81 = .ok (.goto 4, 3) := by decide +kernel
theorem dX9_capes_84 : decode cX9_capes 84 = .ok (.iconst 0, 1) := by decide +kernel
theorem dX9_capes_85 : decode cX9_capes 85 = .ok (.ior, 1) := by decide +kernel
theorem dX9_capes_86 : decode cX9_capes 86 = .ok (.istore_n 2, 1) := by decide +kernel
theorem dX9_capes_87 : decode cX9_capes 87 = .ok (.iinc 3 1, 3) := by decide +kernel
theorem dX9_capes_90 : decode cX9_capes 90 = .ok (.goto (-74), 3) := by decide +kernel
theorem dX9_capes_93 : decode cX9_capes 93 = .ok (.iload_n 2, 1) := by decide +kernel
theorem dX9_capes_94 : decode cX9_capes 94 = .ok (.ireturn, 1) := by decide +kernel
theorem dX9_next_0 : decode cX9_next 0 = .ok (.ldc 157, 2) := by decide +kernel
theorem dX9_next_2 : decode cX9_next 2 = .ok (.istore_n 1, 1) := by decide +kernel
theorem dX9_next_3 : decode cX9_next 3 = .ok (.iconst (-1), 1) := by decide +kernel
theorem dX9_next_4 : decode cX9_next 4 = .ok (.istore_n 2, 1) := by decide +kernel
theorem dX9_next_5 : decode cX9_next 5 = .ok (.iconst 0, 1) := by decide +kernel
theorem dX9_next_6 : decode cX9_next 6 = .ok (.istore_n 3, 1) := by decide +kernel
theorem dX9_next_7 : decode cX9_next 7 = .ok (.iload_n 3, 1) := by decide +kernel
theorem dX9_next_8 : decode cX9_next 8 = .ok (.bipush 9, 2) := by decide +kernel
theorem dX9_next_10 : decode cX9_next 10 = .ok (.if_icmp .ge 52, 3) := by decide +kernel
theorem dX9_next_13 : decode cX9_next 13 = .ok (.aload_n 0, 1) := by decide +kernel
theorem dX9_next_14 : decode cX9_next 14 = .ok (.getfield 19, 3) := by decide +kernel
theorem dX9_next_17 : decode cX9_next 17 = .ok (.aload_n 0, 1) := by decide +kernel
theorem dX9_next_18 : decode cX9_next 18 = .ok (.getfield 72, 3) := by decide +kernel
theorem dX9_next_21 : decode cX9_next 21 = .ok (.iload_n 3, 1) := by decide +kernel
theorem dX9_next_22 : decode cX9_next 22 = .ok (.invokevirtual 194, 3) := by decide +kernel
theorem dX9_next_25 : decode cX9_next 25 = .ok (.aload_n 0, 1) := by decide +kernel
theorem dX9_next_26 : decode cX9_next 26 = .ok (.getfield 19, 3) := by decide +kernel
theorem dX9_next_29 : decode cX9_next 29 = .ok (.invokevirtual 212, 3) := by decide +kernel
theorem dX9_next_32 : decode cX9_next 32 = .ok (.ifCond .eq 24, 3) := by decide +kernel
theorem dX9_next_35 : decode cX9_next 35 = .ok (.aload_n 0, 1) := by decide +kernel
theorem dX9_next_36 : decode cX9_next 36 = .ok (.getfield 19, 3) := by decide +kernel
theorem dX9_next_39 : decode cX9_next 39 = .ok (.invokevirtual 209, 3) := by decide +kernel
theorem dX9_next_42 : decode cX9_next 42 = .ok (.iload_n 2, 1) := by decide +kernel
theorem dX9_next_43 : decode cX9_next 43 = .ok (.if_icmp .le 13, 3) := by decide +kernel
theorem dX9_next_46 : decode cX9_next 46 = .ok (.iload_n 3, 1) := by decide +kernel
theorem dX9_next_47 : decode cX9_next 47 = .ok (.istore_n 1, 1) := by decide +kernel
theorem dX9_next_48 : decode cX9_next 48 = .ok (.aload_n 0, 1) := by decide +kernel
theorem dX9_next_49 : decode cX9_next 49 = .ok (.getfield 19, 3) := by decide +kernel
theorem dX9_next_52 : decode cX9_next 52 = .ok (.invokevirtual 209, 3) := by decide +kernel
theorem dX9_next_55 : decode cX9_next 55 = .ok (.istore_n 2, 1) := by decide +kernel
theorem dX9_next_56 : decode cX9_next 56 = .ok (.iinc 3 1, 3) := by decide +kernel
theorem dX9_next_59 : decode cX9_next 59 = .ok (.goto (-52), 3) := by decide +kernel
theorem dX9_next_62 : decode cX9_next 62 = .ok (.iload_n 1, 1) := by decide +kernel
theorem dX9_next_63 : decode cX9_next 63 = .ok (.ireturn, 1) := by decide +kernel
theorem dX9_choose_0 : decode cX9_choose 0 = .ok (.iload_n 1, 1) := by decide +kernel
theorem dX9_choose_1 : decode cX9_choose 1 = .ok (.aload_n 0, 1) := by decide +kernel
theorem dX9_choose_2 : decode cX9_choose 2 = .ok (.getfield 72, 3) := by decide +kernel
theorem dX9_choose_5 : decode cX9_choose 5 = .ok (.getfield 97, 3) := by decide +kernel
theorem dX9_choose_8 : decode cX9_choose 8 = .ok (.invokestatic 84, 3) := by decide +kernel
theorem dX9_choose_11 : decode cX9_choose 11 = .ok (.ifCond .ne 6, 3) := by decide +kernel
theorem dX9_choose_14 : decode cX9_choose 14 = .ok (.ldc 96, 2) := by decide +kernel
theorem dX9_choose_16 : decode cX9_choose 16 = .ok (.ireturn, 1) := by decide +kernel
theorem dX9_choose_17 : decode cX9_choose 17 = .ok (.aload_n 0, 1) := by decide +kernel
theorem dX9_choose_18 : decode cX9_choose 18 = .ok (.getfield 72, 3) := by decide +kernel
theorem dX9_choose_21 : decode cX9_choose 21 = .ok (.iload_n 1, 1) := by decide +kernel
theorem dX9_choose_22 : decode cX9_choose 22 = .ok (.invokevirtual 221, 3) := by decide +kernel
theorem dX9_choose_25 : decode cX9_choose 25 = .ok (.ifCond .eq 6, 3) := by decide +kernel
theorem dX9_choose_28 : decode cX9_choose 28 = .ok (.ldc 224, 2) := by decide +kernel
theorem dX9_choose_30 : decode cX9_choose 30 = .ok (.ireturn, 1) := by decide +kernel
theorem dX9_choose_31 : decode cX9_choose 31 = .ok (.aload_n 0, 1) := by decide +kernel
theorem dX9_choose_32 : decode cX9_choose 32 = .ok (.getfield 72, 3) := by decide +kernel
theorem dX9_choose_35 : decode cX9_choose 35 = .ok (.getfield 105, 3) := by decide +kernel
theorem dX9_choose_38 : decode cX9_choose 38 = .ok (.iload_n 1, 1) := by decide +kernel
theorem dX9_choose_39 : decode cX9_choose 39 = .ok (.aaload, 1) := by decide +kernel
theorem dX9_choose_40 : decode cX9_choose 40 = .ok (.getfield 114, 3) := by decide +kernel
theorem dX9_choose_43 : decode cX9_choose 43 = .ok (.istore_n 2, 1) := by decide +kernel
theorem dX9_choose_44 : decode cX9_choose 44 = .ok (.aload_n 0, 1) := by decide +kernel
theorem dX9_choose_45 : decode cX9_choose 45 = .ok (.getfield 72, 3) := by decide +kernel
theorem dX9_choose_48 : decode cX9_choose 48 = .ok (.getfield 225, 3) := by decide +kernel
theorem dX9_choose_51 : decode cX9_choose 51 = .ok (.iload_n 2, 1) := by decide +kernel
theorem dX9_choose_52 : decode cX9_choose 52 = .ok (.iaload, 1) := by decide +kernel
theorem dX9_choose_53 : decode cX9_choose 53 = .ok (.iconst 5, 1) := by decide +kernel
theorem dX9_choose_54 : decode cX9_choose 54 = .ok (.if_icmp .lt 6, 3) := by decide +kernel
theorem dX9_choose_57 : decode cX9_choose 57 = .ok (.ldc 100, 2) := by decide +kernel
theorem dX9_choose_59 : decode cX9_choose 59 = .ok (.ireturn, 1) := by decide +kernel
theorem dX9_choose_60 : decode cX9_choose 60 = .ok (.aload_n 0, 1) := by decide +kernel
theorem dX9_choose_61 : decode cX9_choose 61 = .ok (.getfield 72, 3) := by decide +kernel
theorem dX9_choose_64 : decode cX9_choose 64 = .ok (.getfield 228, 3) := by decide +kernel
theorem dX9_choose_67 : decode cX9_choose 67 = .ok (.iload_n 2, 1) := by decide +kernel
theorem dX9_choose_68 : decode cX9_choose 68 = .ok (.iconst 5, 1) := by decide +kernel
theorem dX9_choose_69 : decode cX9_choose 69 = .ok (.imul, 1) := by decide +kernel
theorem dX9_choose_70 : decode cX9_choose 70 = .ok (.aload_n 0, 1) := by decide +kernel
theorem dX9_choose_71 : decode cX9_choose 71 = .ok (.getfield 72, 3) := by decide +kernel
theorem dX9_choose_74 : decode cX9_choose 74 = .ok (.getfield 225, 3) := by decide +kernel
theorem dX9_choose_77 : decode cX9_choose 77 = .ok (.iload_n 2, 1) := by decide +kernel
theorem dX9_choose_78 : decode cX9_choose 78 = .ok (.iaload, 1) := by decide +kernel
theorem dX9_choose_79 : decode cX9_choose 79 = .ok (.iadd, 1) := by decide +kernel
theorem dX9_choose_80 : decode cX9_choose 80 = .ok (.iload_n 1, 1) := by decide +kernel
theorem dX9_choose_81 : decode cX9_choose 81 = .ok (.iastore, 1) := by decide +kernel
theorem dX9_choose_82 : decode cX9_choose 82 = .ok (.aload_n 0, 1) := by decide +kernel
theorem dX9_choose_83 : decode cX9_choose 83 = .ok (.getfield 72, 3) := by decide +kernel
theorem dX9_choose_86 : decode cX9_choose 86 = .ok (.getfield 225, 3) := by decide +kernel
theorem dX9_choose_89 : decode cX9_choose 89 = .ok (.iload_n 2, 1) := by decide +kernel
theorem dX9_choose_90 : decode cX9_choose 90 = .ok (.dup2, 1) := by decide +kernel
theorem dX9_choose_91 : decode cX9_choose 91 = .ok (.iaload, 1) := by decide +kernel
theorem dX9_choose_92 : decode cX9_choose 92 = .ok (.iconst 1, 1) := by decide +kernel
theorem dX9_choose_93 : decode cX9_choose 93 = .ok (.iadd, 1) := by decide +kernel
theorem dX9_choose_94 : decode cX9_choose 94 = .ok (.iastore, 1) := by decide +kernel
theorem dX9_choose_95 : decode cX9_choose 95 = .ok (.aload_n 0, 1) := by decide +kernel
theorem dX9_choose_96 : decode cX9_choose 96 = .ok (.getfield 72, 3) := by decide +kernel
theorem dX9_choose_99 : decode cX9_choose 99 = .ok (.getfield 225, 3) := by decide +kernel
theorem dX9_choose_102 : decode cX9_choose 102 = .ok (.iload_n 2, 1) := by decide +kernel
theorem dX9_choose_103 : decode cX9_choose 103 = .ok (.iaload, 1) := by decide +kernel
theorem dX9_choose_104 : decode cX9_choose 104 = .ok (.ireturn, 1) := by decide +kernel
theorem dX9_clear_0 : decode cX9_clear 0 = .ok (.aload_n 0, 1) := by decide +kernel
theorem dX9_clear_1 : decode cX9_clear 1 = .ok (.getfield 72, 3) := by decide +kernel
theorem dX9_clear_4 : decode cX9_clear 4 = .ok (.invokevirtual 231, 3) := by decide +kernel
theorem dX9_clear_7 : decode cX9_clear 7 = .ok (.istore_n 1, 1) := by decide +kernel
theorem dX9_clear_8 : decode cX9_clear 8 = .ok (.iconst 0, 1) := by decide +kernel
theorem dX9_clear_9 : decode cX9_clear 9 = .ok (.istore_n 2, 1) := by decide +kernel
theorem dX9_clear_10 : decode cX9_clear 10 = .ok (.iload_n 2, 1) := by decide +kernel
theorem dX9_clear_11 : decode cX9_clear 11 = .ok (.iconst 3, 1) := by decide +kernel
theorem dX9_clear_12 : decode cX9_clear 12 = .ok (.if_icmp .ge 19, 3) := by decide +kernel
theorem dX9_clear_15 : decode cX9_clear 15 = .ok (.aload_n 0, 1) := by decide +kernel
theorem dX9_clear_16 : decode cX9_clear 16 = .ok (.getfield 72, 3) := by decide +kernel
theorem dX9_clear_19 : decode cX9_clear 19 = .ok (.getfield 225, 3) := by decide +kernel
theorem dX9_clear_22 : decode cX9_clear 22 = .ok (.iload_n 2, 1) := by decide +kernel
theorem dX9_clear_23 : decode cX9_clear 23 = .ok (.iconst 0, 1) := by decide +kernel
theorem dX9_clear_24 : decode cX9_clear 24 = .ok (.iastore, 1) := by decide +kernel
theorem dX9_clear_25 : decode cX9_clear 25 = .ok (.iinc 2 1, 3) := by decide +kernel
theorem dX9_clear_28 : decode cX9_clear 28 = .ok (.goto (-18), 3) := by decide +kernel
theorem dX9_clear_31 : decode cX9_clear 31 = .ok (.iload_n 1, 1) := by decide +kernel
theorem dX9_clear_32 : decode cX9_clear 32 = .ok (.ireturn, 1) := by decide +kernel
theorem dX9_match_0 : decode cX9_match 0 = .ok (.iload_n 1, 1) := by decide +kernel
theorem dX9_match_1 : decode cX9_match 1 = .ok (.iload_n 2, 1) := by decide +kernel
theorem dX9_match_2 : decode cX9_match 2 = .ok (.iconst 3, 1) := by decide +kernel
theorem dX9_match_3 : decode cX9_match 3 = .ok (.invokestatic 234, 3) := by decide +kernel
theorem dX9_match_6 : decode cX9_match 6 = .ok (.ifCond .eq 23, 3) := by decide +kernel
theorem dX9_match_9 : decode cX9_match 9 = .ok (.iload_n 3, 1) := by decide +kernel
theorem dX9_match_10 : decode cX9_match 10 = .ok (.bipush (-2), 2) := by decide +kernel
theorem dX9_match_12 : decode cX9_match 12 = .ok (.aload_n 0, 1) := by decide +kernel
theorem dX9_match_13 : decode cX9_match 13 = .ok (.getfield 72, 3) := by decide +kernel
theorem dX9_match_16 : decode cX9_match 16 = .ok (.getfield 225, 3) := by decide +kernel
theorem dX9_match_19 : decode cX9_match 19 = .ok (.iload_n 1, 1) := by decide +kernel
theorem dX9_match_20 : decode cX9_match 20 = .ok (.iaload, 1) := by decide +kernel
theorem dX9_match_21 : decode cX9_match 21 = .ok (.iconst 1, 1) := by decide +kernel
theorem dX9_match_22 : decode cX9_match 22 = .ok (.isub, 1) := by decide +kernel
theorem dX9_match_23 : decode cX9_match 23 = .ok (.invokestatic 92, 3) := by decide +kernel
theorem dX9_match_26 : decode cX9_match 26 = .ok (.ifCond .ne 6, 3) := by decide +kernel
theorem dX9_match_29 : decode cX9_match 29 = .ok (.ldc 96, 2) := by decide +kernel
theorem dX9_match_31 : decode cX9_match 31 = .ok (.ireturn, 1) := by decide +kernel
theorem dX9_match_32 : decode cX9_match 32 = .ok (.aload_n 0, 1) := by decide +kernel
theorem dX9_match_33 : decode cX9_match 33 = .ok (.getfield 26, 3) := by decide +kernel
theorem dX9_match_36 : decode cX9_match 36 = .ok (.aload_n 0, 1) := by decide +kernel
theorem dX9_match_37 : decode cX9_match 37 = .ok (.getfield 72, 3) := by decide +kernel
theorem dX9_match_40 : decode cX9_match 40 = .ok (.iload_n 1, 1) := by decide +kernel
theorem dX9_match_41 : decode cX9_match 41 = .ok (.iload_n 2, 1) := by decide +kernel
theorem dX9_match_42 : decode cX9_match 42 = .ok (.invokevirtual 237, 3) := by decide +kernel
theorem dX9_match_45 : decode cX9_match 45 = .ok (.iload_n 3, 1) := by decide +kernel
theorem dX9_match_46 : decode cX9_match 46 = .ok (.bipush (-2), 2) := by decide +kernel
theorem dX9_match_48 : decode cX9_match 48 = .ok (.if_icmp .ne 11, 3) := by decide +kernel
theorem dX9_match_51 : decode cX9_match 51 = .ok (.aload_n 0, 1) := by decide +kernel
theorem dX9_match_52 : decode cX9_match 52 = .ok (.getfield 26, 3) := by decide +kernel
theorem dX9_match_55 : decode cX9_match 55 = .ok (.getfield 241, 3) := by decide +kernel
theorem dX9_match_58 : decode cX9_match 58 = .ok (.ireturn, 1) := by decide +kernel
theorem dX9_match_59 : decode cX9_match 59 = .ok (.iload_n 3, 1) := by decide +kernel
theorem dX9_match_60 : decode cX9_match 60 = .ok (.iconst (-1), 1) := by decide +kernel
theorem dX9_match_61 : decode cX9_match 61 = .ok (.if_icmp .ne 13, 3) := by decide +kernel
theorem dX9_match_64 : decode cX9_match 64 = .ok (.aload_n 0, 1) := by decide +kernel
theorem dX9_match_65 : decode cX9_match 65 = .ok (.getfield 26, 3) := by decide +kernel
theorem dX9_match_68 : decode cX9_match 68 = .ok (.getfield 244, 3) := by decide +kernel
theorem dX9_match_71 : decode cX9_match 71 = .ok (.goto 12, 3) := by decide +kernel
theorem dX9_match_74 : decode cX9_match 74 = .ok (.aload_n 0, 1) := by decide +kernel
theorem dX9_match_75 : decode cX9_match 75 = .ok (.getfield 26, 3) := by decide +kernel
theorem dX9_match_78 : decode cX9_match 78 = .ok (.getfield 247, 3) := by decide +kernel
theorem dX9_match_81 : decode cX9_match 81 = .ok (.iload_n 3, 1) := by decide +kernel
theorem dX9_match_82 : decode cX9_match 82 = .ok (.iaload, 1) := by decide +kernel
theorem dX9_match_83 : decode cX9_match 83 = .ok (.ireturn, 1) := by decide +kernel
theorem dX9_join_0 : decode cX9_join 0 = .ok (.iload_n 1, 1) := by decide +kernel
theorem dX9_join_1 : decode cX9_join 1 = .ok (.iload_n 2, 1) := by decide +kernel
theorem dX9_join_2 : decode cX9_join 2 = .ok (.iconst 3, 1) := by decide +kernel
theorem dX9_join_3 : decode cX9_join 3 = .ok (.invokestatic 234, 3) := by decide +kernel
theorem dX9_join_6 : decode cX9_join 6 = .ok (.ifCond .ne 6, 3) := by decide +kernel
theorem dX9_join_9 : decode cX9_join 9 = .ok (.ldc 96, 2) := by decide +kernel
theorem dX9_join_11 : decode cX9_join 11 = .ok (.ireturn, 1) := by decide +kernel
theorem dX9_join_12 : decode cX9_join 12 = .ok (.aload_n 0, 1) := by decide +kernel
theorem dX9_join_13 : decode cX9_join 13 = .ok (.getfield 26, 3) := by decide +kernel
theorem dX9_join_16 : decode cX9_join 16 = .ok (.aload_n 0, 1) := by decide +kernel
theorem dX9_join_17 : decode cX9_join 17 = .ok (.getfield 72, 3) := by decide +kernel
theorem dX9_join_20 : decode cX9_join 20 = .ok (.iload_n 1, 1) := by decide +kernel
theorem dX9_join_21 : decode cX9_join 21 = .ok (.iload_n 2, 1) := by decide +kernel
theorem dX9_join_22 : decode cX9_join 22 = .ok (.invokevirtual 237, 3) := by decide +kernel
theorem dX9_join_25 : decode cX9_join 25 = .ok (.iconst 0, 1) := by decide +kernel
theorem dX9_join_26 : decode cX9_join 26 = .ok (.istore_n 3, 1) := by decide +kernel
theorem dX9_join_27 : decode cX9_join 27 = .ok (.iconst 0, 1) := by decide +kernel
theorem dX9_join_28 : decode cX9_join 28 = .ok (.istore 4, 2) := by decide +kernel
theorem dX9_join_30 : decode cX9_join 30 = .ok (.iload 4, 2) := by decide +kernel
theorem dX9_join_32 : decode cX9_join 32 = .ok (.aload_n 0, 1) := by decide +kernel
theorem dX9_join_33 : decode cX9_join 33 = .ok (.getfield 72, 3) := by decide +kernel
theorem dX9_join_36 : decode cX9_join 36 = .ok (.getfield 225, 3) := by decide +kernel
theorem dX9_join_39 : decode cX9_join 39 = .ok (.iload_n 1, 1) := by decide +kernel
theorem dX9_join_40 : decode cX9_join 40 = .ok (.iaload, 1) := by decide +kernel
theorem dX9_join_41 : decode cX9_join 41 = .ok (.if_icmp .ge 86, 3) := by decide +kernel
theorem dX9_join_44 : decode cX9_join 44 = .ok (.aload_n 0, 1) := by decide +kernel
theorem dX9_join_45 : decode cX9_join 45 = .ok (.getfield 72, 3) := by decide +kernel
theorem dX9_join_48 : decode cX9_join 48 = .ok (.iload_n 1, 1) := by decide +kernel
theorem dX9_join_49 : decode cX9_join 49 = .ok (.iload 4, 2) := by decide +kernel
theorem dX9_join_51 : decode cX9_join 51 = .ok (.invokevirtual 250, 3) := by decide +kernel
theorem dX9_join_54 : decode cX9_join 54 = .ok (.getfield 126, 3) := by decide +kernel
theorem dX9_join_57 : decode cX9_join 57 = .ok (.istore 5, 2) := by decide +kernel
theorem dX9_join_59 : decode cX9_join 59 = .ok (.aload_n 0, 1) := by decide +kernel
theorem dX9_join_60 : decode cX9_join 60 = .ok (.getfield 26, 3) := by decide +kernel
theorem dX9_join_63 : decode cX9_join 63 = .ok (.getfield 247, 3) := by decide +kernel
theorem dX9_join_66 : decode cX9_join 66 = .ok (.iload 4, 2) := by decide +kernel
theorem dX9_join_68 : decode cX9_join 68 = .ok (.iaload, 1) := by decide +kernel
theorem dX9_join_69 : decode cX9_join 69 = .ok (.istore 6, 2) := by decide +kernel
theorem dX9_join_71 : decode cX9_join 71 = .ok (.iload 5, 2) := by decide +kernel
theorem dX9_join_73 : decode cX9_join 73 = .ok (.ldc 157, 2) := by decide +kernel
theorem dX9_join_75 : decode cX9_join 75 = .ok (.if_icmp .eq 46, 3) := by decide +kernel
theorem dX9_join_78 : decode cX9_join 78 = .ok (.iload 6, 2) := by decide +kernel
theorem dX9_join_80 : decode cX9_join 80 = .ok (.ldc 157, 2) := by decide +kernel
theorem dX9_join_82 : decode cX9_join 82 = .ok (.if_icmp .eq 39, 3) := by decide +kernel
theorem dX9_join_85 : decode cX9_join 85 = .ok (.aload_n 0, 1) := by decide +kernel
theorem dX9_join_86 : decode cX9_join 86 = .ok (.getfield 72, 3) := by decide +kernel
theorem dX9_join_89 : decode cX9_join 89 = .ok (.getfield 105, 3) := by decide +kernel
theorem dX9_join_92 : decode cX9_join 92 = .ok (.iload 6, 2) := by decide +kernel
theorem dX9_join_94 : decode cX9_join 94 = .ok (.aaload, 1) := by decide +kernel
theorem dX9_join_95 : decode cX9_join 95 = .ok (.getfield 126, 3) := by decide +kernel
theorem dX9_join_98 : decode cX9_join 98 = .ok (.iload 5, 2) := by decide +kernel
theorem dX9_join_100 : decode cX9_join 100 = .ok (.if_icmp .eq 21, 3) := by decide +kernel
theorem dX9_join_103 : decode cX9_join 103 = .ok (.aload_n 0, 1) := by decide +kernel
theorem dX9_join_104 : decode cX9_join 104 = .ok (.getfield 72, 3) := by decide +kernel
theorem dX9_join_107 : decode cX9_join 107 = .ok (.getfield 105, 3) := by decide +kernel
theorem dX9_join_110 : decode cX9_join 110 = .ok (.iload 6, 2) := by decide +kernel
theorem dX9_join_112 : decode cX9_join 112 = .ok (.aaload, 1) := by decide +kernel
theorem dX9_join_113 : decode cX9_join 113 = .ok (.iload 5, 2) := by decide +kernel
theorem dX9_join_115 : decode cX9_join 115 = .ok (.putfield 126, 3) := by decide +kernel
theorem dX9_join_118 : decode cX9_join 118 = .ok (.iinc 3 1, 3) := by decide +kernel
theorem dX9_join_121 : decode cX9_join 121 = .ok (.iinc 4 1, 3) := by decide +kernel
theorem dX9_join_124 : decode cX9_join 124 = .ok (.goto (-94), 3) := by decide +kernel
theorem dX9_join_127 : decode cX9_join 127 = .ok (.iload_n 3, 1) := by decide +kernel
theorem dX9_join_128 : decode cX9_join 128 = .ok (.ireturn, 1) := by decide +kernel
theorem dX9_passage_0 : decode cX9_passage 0 = .ok (.iload_n 1, 1) := by decide +kernel
theorem dX9_passage_1 : decode cX9_passage 1 = .ok (.iload_n 2, 1) := by decide +kernel
theorem dX9_passage_2 : decode cX9_passage 2 = .ok (.bipush 9, 2) := by decide +kernel
theorem dX9_passage_4 : decode cX9_passage 4 = .ok (.invokestatic 234, 3) := by decide +kernel
theorem dX9_passage_7 : decode cX9_passage 7 = .ok (.ifCond .eq 11, 3) := by decide +kernel
theorem dX9_passage_10 : decode cX9_passage 10 = .ok (.iload_n 3, 1) := by decide +kernel
theorem dX9_passage_11 : decode cX9_passage 11 = .ok (.iconst 4, 1) := by decide +kernel
theorem dX9_passage_12 : decode cX9_passage 12 = .ok (.invokestatic 84, 3) := by decide +kernel
theorem dX9_passage_15 : decode cX9_passage 15 = .ok (.ifCond .ne 6, 3) := by decide +kernel
theorem dX9_passage_18 : decode cX9_passage 18 = .ok (.ldc 96, 2) := by decide +kernel
theorem dX9_passage_20 : decode cX9_passage 20 = .ok (.ireturn, 1) := by decide +kernel
theorem dX9_passage_21 : decode cX9_passage 21 = .ok (.aload_n 0, 1) := by decide +kernel
theorem dX9_passage_22 : decode cX9_passage 22 = .ok (.getfield 72, 3) := by decide +kernel
theorem dX9_passage_25 : decode cX9_passage 25 = .ok (.getfield 254, 3) := by decide +kernel
theorem dX9_passage_28 : decode cX9_passage 28 = .ok (.bipush 20, 2) := by decide +kernel
theorem dX9_passage_30 : decode cX9_passage 30 = .ok (.if_icmp .lt 6, 3) := by decide +kernel
theorem dX9_passage_33 : decode cX9_passage 33 = .ok (.ldc 100, 2) := by decide +kernel
theorem dX9_passage_35 : decode cX9_passage 35 = .ok (.ireturn, 1) := by decide +kernel
theorem dX9_passage_36 : decode cX9_passage 36 = .ok (.aload_n 0, 1) := by decide +kernel
theorem dX9_passage_37 : decode cX9_passage 37 = .ok (.getfield 72, 3) := by decide +kernel
theorem dX9_passage_40 : decode cX9_passage 40 = .ok (.getfield 257, 3) := by decide +kernel
theorem dX9_passage_43 : decode cX9_passage 43 = .ok (.aload_n 0, 1) := by decide +kernel
theorem dX9_passage_44 : decode cX9_passage 44 = .ok (.getfield 72, 3) := by decide +kernel
theorem dX9_passage_47 : decode cX9_passage 47 = .ok (.getfield 254, 3) := by decide +kernel
theorem dX9_passage_50 : decode cX9_passage 50 = .ok (.iload_n 1, 1) := by decide +kernel
theorem dX9_passage_51 : decode cX9_passage 51 = .ok (.iload_n 2, 1) := by decide +kernel
theorem dX9_passage_52 : decode cX9_passage 52 = .ok (.iload_n 3, 1) := by decide +kernel
theorem dX9_passage_53 : decode cX9_passage 53 = .ok (.invokestatic 260, 3) := by decide +kernel
theorem dX9_passage_56 : decode cX9_passage 56 = .ok (.iastore, 1) := by decide +kernel
theorem dX9_passage_57 : decode cX9_passage 57 = .ok (.aload_n 0, 1) := by decide +kernel
theorem dX9_passage_58 : decode cX9_passage 58 = .ok (.getfield 72, 3) := by decide +kernel
theorem dX9_passage_61 : decode cX9_passage 61 = .ok (.dup, 1) := by decide +kernel
theorem dX9_passage_62 : decode cX9_passage 62 = .ok (.getfield 254, 3) := by decide +kernel
theorem dX9_passage_65 : decode cX9_passage 65 = .ok (.iconst 1, 1) := by decide +kernel
theorem dX9_passage_66 : decode cX9_passage 66 = .ok (.iadd, 1) := by decide +kernel
theorem dX9_passage_67 : decode cX9_passage 67 = .ok (.putfield 254, 3) := by decide +kernel
theorem dX9_passage_70 : decode cX9_passage 70 = .ok (.aload_n 0, 1) := by decide +kernel
theorem dX9_passage_71 : decode cX9_passage 71 = .ok (.getfield 72, 3) := by decide +kernel
theorem dX9_passage_74 : decode cX9_passage 74 = .ok (.getfield 254, 3) := by decide +kernel
theorem dX9_passage_77 : decode cX9_passage 77 = .ok (.ireturn, 1) := by decide +kernel
theorem dX9_between_0 : decode cX9_between 0 = .ok (.iload_n 1, 1) := by decide +kernel
theorem dX9_between_1 : decode cX9_between 1 = .ok (.iload_n 2, 1) := by decide +kernel
theorem dX9_between_2 : decode cX9_between 2 = .ok (.bipush 9, 2) := by decide +kernel
theorem dX9_between_4 : decode cX9_between 4 = .ok (.invokestatic 234, 3) := by decide +kernel
theorem dX9_between_7 : decode cX9_between 7 = .ok (.ifCond .ne 6, 3) := by decide +kernel
theorem dX9_between_10 : decode cX9_between 10 = .ok (.ldc 96, 2) := by decide +kernel
theorem dX9_between_12 : decode cX9_between 12 = .ok (.ireturn, 1) := by decide +kernel
theorem dX9_between_13 : decode cX9_between 13 = .ok (.aload_n 0, 1) := by decide +kernel
theorem dX9_between_14 : decode cX9_between 14 = .ok (.getfield 72, 3) := by decide +kernel
theorem dX9_between_17 : decode cX9_between 17 = .ok (.iload_n 1, 1) := by decide +kernel
theorem dX9_between_18 : decode cX9_between 18 = .ok (.iload_n 2, 1) := by decide +kernel
theorem dX9_between_19 : decode cX9_between 19 = .ok (.iconst 0, 1) := by decide +kernel
theorem dX9_between_20 : decode cX9_between 20 = .ok (.invokevirtual 264, 3) := by decide +kernel
theorem dX9_between_23 : decode cX9_between 23 = .ok (.ifCond .le 7, 3) := by decide +kernel
theorem dX9_between_26 : decode cX9_between 26 = .ok (.iconst 1, 1) := by decide +kernel
theorem dX9_between_27 : decode cX9_between 27 = .ok (.goto 4, 3) := by decide +kernel
theorem dX9_between_30 : decode cX9_between 30 = .ok (.iconst 0, 1) := by decide +kernel
theorem dX9_between_31 : decode cX9_between 31 = .ok (.istore_n 3, 1) := by decide +kernel
theorem dX9_between_32 : decode cX9_between 32 = .ok (.aload_n 0, 1) := by decide +kernel
theorem dX9_between_33 : decode cX9_between 33 = .ok (.getfield 72, 3) := by decide +kernel
theorem dX9_between_36 : decode cX9_between 36 = .ok (.iload_n 1, 1) := by decide +kernel
theorem dX9_between_37 : decode cX9_between 37 = .ok (.iload_n 2, 1) := by decide +kernel
theorem dX9_between_38 : decode cX9_between 38 = .ok (.iconst 1, 1) := by decide +kernel
theorem dX9_between_39 : decode cX9_between 39 = .ok (.invokevirtual 264, 3) := by decide +kernel
theorem dX9_between_42 : decode cX9_between 42 = .ok (.ifCond .le 7, 3) := by decide +kernel
theorem dX9_between_45 : decode cX9_between 45 = .ok (.iconst 1, 1) := by decide +kernel
theorem dX9_between_46 : decode cX9_between 46 = .ok (.goto 4, 3) := by decide +kernel
theorem dX9_between_49 : decode cX9_between 49 = .ok (.iconst 0, 1) := by decide +kernel
theorem dX9_between_50 : decode cX9_between 50 = .ok (.istore 4, 2) := by decide +kernel
theorem dX9_between_52 : decode cX9_between 52 = .ok (.iload_n 3, 1) := by decide +kernel
theorem dX9_between_53 : decode cX9_between 53 = .ok (.ifCond .ne 8, 3) := by decide +kernel
theorem dX9_between_56 : decode cX9_between 56 = .ok (.iload 4, 2) := by decide +kernel
theorem dX9_between_58 : decode cX9_between 58 = .ok (.ifCond .eq 24, 3) := by decide +kernel
theorem dX9_between_61 : decode cX9_between 61 = .ok (.iload_n 3, 1) := by decide +kernel
theorem dX9_between_62 : decode cX9_between 62 = .ok (.ifCond .eq 7, 3) := by decide +kernel
theorem dX9_between_65 : decode cX9_between 65 = .ok (.iconst 2, 1) := by decide +kernel
theorem dX9_between_66 : decode cX9_between 66 = .ok (.goto 4, 3) := by decide +kernel
theorem dX9_between_69 : decode cX9_between 69 = .ok (.iconst 0, 1) := by decide +kernel
theorem dX9_between_70 : decode cX9_between 70 = .ok (.iload 4, 2) := by decide +kernel
theorem dX9_between_72 : decode cX9_between 72 = .ok (.ifCond .eq 7, 3) := by decide +kernel
theorem dX9_between_75 : decode cX9_between 75 = .ok (.iconst 1, 1) := by decide +kernel
theorem dX9_between_76 : decode cX9_between 76 = .ok (.goto 4, 3) := by decide +kernel
theorem dX9_between_79 : decode cX9_between 79 = .ok (.iconst 0, 1) := by decide +kernel
theorem dX9_between_80 : decode cX9_between 80 = .ok (.iadd, 1) := by decide +kernel
theorem dX9_between_81 : decode cX9_between 81 = .ok (.ireturn, 1) := by decide +kernel
theorem dX9_between_82 : decode cX9_between 82 = .ok (.aload_n 0, 1) := by decide +kernel
theorem dX9_between_83 : decode cX9_between 83 = .ok (.getfield 72, 3) := by decide +kernel
theorem dX9_between_86 : decode cX9_between 86 = .ok (.iload_n 1, 1) := by decide +kernel
theorem dX9_between_87 : decode cX9_between 87 = .ok (.iload_n 2, 1) := by decide +kernel
theorem dX9_between_88 : decode cX9_between 88 = .ok (.iconst 3, 1) := by decide +kernel
theorem dX9_between_89 : decode cX9_between 89 = .ok (.invokevirtual 264, 3) := by decide +kernel
theorem dX9_between_92 : decode cX9_between 92 = .ok (.istore 5, 2) := by decide +kernel
theorem dX9_between_94 : decode cX9_between 94 = .ok (.aload_n 0, 1) := by decide +kernel
theorem dX9_between_95 : decode cX9_between 95 = .ok (.getfield 72, 3) := by decide +kernel
theorem dX9_between_98 : decode cX9_between 98 = .ok (.iload_n 1, 1) := by decide +kernel
theorem dX9_between_99 : decode cX9_between 99 = .ok (.iload_n 2, 1) := by decide +kernel
theorem dX9_between_100 : decode cX9_between 100 = .ok (.iconst 2, 1) := by decide +kernel
theorem dX9_between_101 : decode cX9_between 101 = .ok (.invokevirtual 264, 3) := by decide +kernel
theorem dX9_between_104 : decode cX9_between 104 = .ok (.istore 6, 2) := by decide +kernel
theorem dX9_between_106 : decode cX9_between 106 = .ok (.iload 5, 2) := by decide +kernel
theorem dX9_between_108 : decode cX9_between 108 = .ok (.iload 6, 2) := by decide +kernel
theorem dX9_between_110 : decode cX9_between 110 = .ok (.if_icmp .ne 5, 3) := by decide +kernel
theorem dX9_between_113 : decode cX9_between 113 = .ok (.iconst 0, 1) := by decide +kernel
theorem dX9_between_114 : decode cX9_between 114 = .ok (.ireturn, 1) := by decide +kernel
theorem dX9_between_115 : decode cX9_between 115 = .ok (.iload 5, 2) := by decide +kernel
theorem dX9_between_117 : decode cX9_between 117 = .ok (.iload 6, 2) := by decide +kernel
theorem dX9_between_119 : decode cX9_between 119 = .ok (.if_icmp .le 7, 3) := by decide +kernel
theorem dX9_between_122 : decode cX9_between 122 = .ok (.iconst 4, 1) := by decide +kernel
theorem dX9_between_123 : decode cX9_between 123 = .ok (.goto 4, 3) := by decide +kernel
theorem dX9_between_126 : decode cX9_between 126 = .ok (.iconst 5, 1) := by decide +kernel
theorem dX9_between_127 : decode cX9_between 127 = .ok (.ireturn, 1) := by decide +kernel
theorem dX9_same_0 : decode cX9_same 0 = .ok (.iload_n 1, 1) := by decide +kernel
theorem dX9_same_1 : decode cX9_same 1 = .ok (.iload_n 2, 1) := by decide +kernel
theorem dX9_same_2 : decode cX9_same 2 = .ok (.bipush 10, 2) := by decide +kernel
theorem dX9_same_4 : decode cX9_same 4 = .ok (.invokestatic 234, 3) := by decide +kernel
theorem dX9_same_7 : decode cX9_same 7 = .ok (.ifCond .ne 6, 3) := by decide +kernel
theorem dX9_same_10 : decode cX9_same 10 = .ok (.ldc 96, 2) := by decide +kernel
theorem dX9_same_12 : decode cX9_same 12 = .ok (.ireturn, 1) := by decide +kernel
theorem dX9_same_13 : decode cX9_same 13 = .ok (.aload_n 0, 1) := by decide +kernel
theorem dX9_same_14 : decode cX9_same 14 = .ok (.getfield 72, 3) := by decide +kernel
theorem dX9_same_17 : decode cX9_same 17 = .ok (.iload_n 1, 1) := by decide +kernel
theorem dX9_same_18 : decode cX9_same 18 = .ok (.invokevirtual 267, 3) := by decide +kernel
theorem dX9_same_21 : decode cX9_same 21 = .ok (.aload_n 0, 1) := by decide +kernel
theorem dX9_same_22 : decode cX9_same 22 = .ok (.getfield 72, 3) := by decide +kernel
theorem dX9_same_25 : decode cX9_same 25 = .ok (.iload_n 2, 1) := by decide +kernel
theorem dX9_same_26 : decode cX9_same 26 = .ok (.invokevirtual 267, 3) := by decide +kernel
theorem dX9_same_29 : decode cX9_same 29 = .ok (.iand, 1) := by decide +kernel
theorem dX9_same_30 : decode cX9_same 30 = .ok (.ifCond .eq 7, 3) := by decide +kernel
theorem dX9_same_33 : decode cX9_same 33 = .ok (.iconst 1, 1) := by decide +kernel
theorem dX9_same_34 : decode cX9_same 34 = .ok (.goto 4, 3) := by decide +kernel
theorem dX9_same_37 : decode cX9_same 37 = .ok (.iconst 0, 1) := by decide +kernel
theorem dX9_same_38 : decode cX9_same 38 = .ok (.ireturn, 1) := by decide +kernel
theorem dX9_kept_0 : decode cX9_kept 0 = .ok (.iload_n 1, 1) := by decide +kernel
theorem dX9_kept_1 : decode cX9_kept 1 = .ok (.bipush 9, 2) := by decide +kernel
theorem dX9_kept_3 : decode cX9_kept 3 = .ok (.invokestatic 84, 3) := by decide +kernel
theorem dX9_kept_6 : decode cX9_kept 6 = .ok (.ifCond .ne 6, 3) := by decide +kernel
theorem dX9_kept_9 : decode cX9_kept 9 = .ok (.ldc 96, 2) := by decide +kernel
theorem dX9_kept_11 : decode cX9_kept 11 = .ok (.ireturn, 1) := by decide +kernel
theorem dX9_kept_12 : decode cX9_kept 12 = .ok (.ldc 157, 2) := by decide +kernel
theorem dX9_kept_14 : decode cX9_kept 14 = .ok (.istore_n 2, 1) := by decide +kernel
theorem dX9_kept_15 : decode cX9_kept 15 = .ok (.bipush 100, 2) := by decide +kernel
theorem dX9_kept_17 : decode cX9_kept 17 = .ok (.istore_n 3, 1) := by decide +kernel
theorem dX9_kept_18 : decode cX9_kept 18 = .ok (.iconst 0, 1) := by decide +kernel
theorem dX9_kept_19 : decode cX9_kept 19 = .ok (.istore 4, 2) := by decide +kernel
theorem dX9_kept_21 : decode cX9_kept 21 = .ok (.iload 4, 2) := by decide +kernel
theorem dX9_kept_23 : decode cX9_kept 23 = .ok (.aload_n 0, 1) := by decide +kernel
theorem dX9_kept_24 : decode cX9_kept 24 = .ok (.getfield 72, 3) := by decide +kernel
theorem dX9_kept_27 : decode cX9_kept 27 = .ok (.getfield 97, 3) := by decide +kernel
theorem dX9_kept_30 : decode cX9_kept 30 = .ok (.if_icmp .ge 61, 3) := by decide +kernel
theorem dX9_kept_33 : decode cX9_kept 33 = .ok (.aload_n 0, 1) := by decide +kernel
theorem dX9_kept_34 : decode cX9_kept 34 = .ok (.getfield 72, 3) := by decide +kernel
theorem dX9_kept_37 : decode cX9_kept 37 = .ok (.getfield 105, 3) := by decide +kernel
theorem dX9_kept_40 : decode cX9_kept 40 = .ok (.iload 4, 2) := by decide +kernel
theorem dX9_kept_42 : decode cX9_kept 42 = .ok (.aaload, 1) := by decide +kernel
theorem dX9_kept_43 : decode cX9_kept 43 = .ok (.astore 5, 2) := by decide +kernel
theorem dX9_kept_45 : decode cX9_kept 45 = .ok (.aload 5, 2) := by decide +kernel
theorem dX9_kept_47 : decode cX9_kept 47 = .ok (.getfield 126, 3) := by decide +kernel
theorem dX9_kept_50 : decode cX9_kept 50 = .ok (.iload_n 1, 1) := by decide +kernel
theorem dX9_kept_51 : decode cX9_kept 51 = .ok (.if_icmp .ne 34, 3) := by decide +kernel
theorem dX9_kept_54 : decode cX9_kept 54 = .ok (.aload 5, 2) := by decide +kernel
theorem dX9_kept_56 : decode cX9_kept 56 = .ok (.getfield 141, 3) := by decide +kernel
theorem dX9_kept_59 : decode cX9_kept 59 = .ok (.ldc 157, 2) := by decide +kernel
theorem dX9_kept_61 : decode cX9_kept 61 = .ok (.if_icmp .eq 24, 3) := by decide +kernel
theorem dX9_kept_64 : decode cX9_kept 64 = .ok (.aload 5, 2) := by decide +kernel
theorem dX9_kept_66 : decode cX9_kept 66 = .ok (.getfield 117, 3) := by decide +kernel
theorem dX9_kept_69 : decode cX9_kept 69 = .ok (.iload_n 3, 1) := by decide +kernel
theorem dX9_kept_70 : decode cX9_kept 70 = .ok (.if_icmp .ge 15, 3) := by decide +kernel
theorem dX9_kept_73 : decode cX9_kept 73 = .ok (.aload 5, 2) := by decide +kernel
theorem dX9_kept_75 : decode cX9_kept 75 = .ok (.getfield 141, 3) := by decide +kernel
theorem dX9_kept_78 : decode cX9_kept 78 = .ok (.istore_n 2, 1) := by decide +kernel
theorem dX9_kept_79 : decode cX9_kept 79 = .ok (.aload 5, 2) := by decide +kernel
theorem dX9_kept_81 : decode cX9_kept 81 = .ok (.getfield 117, 3) := by decide +kernel
theorem dX9_kept_84 : decode cX9_kept 84 = .ok (.istore_n 3, 1) := by decide +kernel
theorem dX9_kept_85 : decode cX9_kept 85 = .ok (.iinc 4 1, 3) := by decide +kernel
theorem dX9_kept_88 : decode cX9_kept 88 = .ok (.goto (-67), 3) := by decide +kernel
theorem dX9_kept_91 : decode cX9_kept 91 = .ok (.iload_n 2, 1) := by decide +kernel
theorem dX9_kept_92 : decode cX9_kept 92 = .ok (.ireturn, 1) := by decide +kernel
theorem dX9_set_0 : decode cX9_set 0 = .ok (.iload_n 1, 1) := by decide +kernel
theorem dX9_set_1 : decode cX9_set 1 = .ok (.iconst 3, 1) := by decide +kernel
theorem dX9_set_2 : decode cX9_set 2 = .ok (.invokestatic 84, 3) := by decide +kernel
theorem dX9_set_5 : decode cX9_set 5 = .ok (.ifCond .eq 25, 3) := by decide +kernel
theorem dX9_set_8 : decode cX9_set 8 = .ok (.iload_n 2, 1) := by decide +kernel
theorem dX9_set_9 : decode cX9_set 9 = .ok (.bipush 100, 2) := by decide +kernel
theorem dX9_set_11 : decode cX9_set 11 = .ok (.invokestatic 84, 3) := by decide +kernel
theorem dX9_set_14 : decode cX9_set 14 = .ok (.ifCond .eq 16, 3) := by decide +kernel
theorem dX9_set_17 : decode cX9_set 17 = .ok (.iload_n 3, 1) := by decide +kernel
theorem dX9_set_18 : decode cX9_set 18 = .ok (.sipush (-200), 3) := by decide +kernel
theorem dX9_set_21 : decode cX9_set 21 = .ok (.sipush 200, 3) := by decide +kernel
theorem dX9_set_24 : decode cX9_set 24 = .ok (.invokestatic 92, 3) := by decide +kernel
theorem dX9_set_27 : decode cX9_set 27 = .ok (.ifCond .ne 6, 3) := by decide +kernel
theorem dX9_set_30 : decode cX9_set 30 = .ok (.ldc 96, 2) := by decide +kernel
theorem dX9_set_32 : decode cX9_set 32 = .ok (.ireturn, 1) := by decide +kernel
theorem dX9_set_33 : decode cX9_set 33 = .ok (.aload_n 0, 1) := by decide +kernel
theorem dX9_set_34 : decode cX9_set 34 = .ok (.getfield 72, 3) := by decide +kernel
theorem dX9_set_37 : decode cX9_set 37 = .ok (.getfield 270, 3) := by decide +kernel
theorem dX9_set_40 : decode cX9_set 40 = .ok (.iload_n 1, 1) := by decide +kernel
theorem dX9_set_41 : decode cX9_set 41 = .ok (.iload_n 2, 1) := by decide +kernel
theorem dX9_set_42 : decode cX9_set 42 = .ok (.iastore, 1) := by decide +kernel
theorem dX9_set_43 : decode cX9_set 43 = .ok (.aload_n 0, 1) := by decide +kernel
theorem dX9_set_44 : decode cX9_set 44 = .ok (.getfield 72, 3) := by decide +kernel
theorem dX9_set_47 : decode cX9_set 47 = .ok (.getfield 273, 3) := by decide +kernel
theorem dX9_set_50 : decode cX9_set 50 = .ok (.iload_n 1, 1) := by decide +kernel
theorem dX9_set_51 : decode cX9_set 51 = .ok (.iload_n 3, 1) := by decide +kernel
theorem dX9_set_52 : decode cX9_set 52 = .ok (.iastore, 1) := by decide +kernel
theorem dX9_set_53 : decode cX9_set 53 = .ok (.iconst 1, 1) := by decide +kernel
theorem dX9_set_54 : decode cX9_set 54 = .ok (.ireturn, 1) := by decide +kernel
theorem dX9_clock_0 : decode cX9_clock 0 = .ok (.iload_n 1, 1) := by decide +kernel
theorem dX9_clock_1 : decode cX9_clock 1 = .ok (.iconst 3, 1) := by decide +kernel
theorem dX9_clock_2 : decode cX9_clock 2 = .ok (.invokestatic 84, 3) := by decide +kernel
theorem dX9_clock_5 : decode cX9_clock 5 = .ok (.ifCond .eq 21, 3) := by decide +kernel
theorem dX9_clock_8 : decode cX9_clock 8 = .ok (.iload_n 2, 1) := by decide +kernel
theorem dX9_clock_9 : decode cX9_clock 9 = .ok (.bipush 100, 2) := by decide +kernel
theorem dX9_clock_11 : decode cX9_clock 11 = .ok (.invokestatic 84, 3) := by decide +kernel
theorem dX9_clock_14 : decode cX9_clock 14 = .ok (.ifCond .eq 12, 3) := by decide +kernel
theorem dX9_clock_17 : decode cX9_clock 17 = .ok (.iload_n 3, 1) := by decide +kernel
theorem dX9_clock_18 : decode cX9_clock 18 = .ok (.iconst 0, 1) := by decide +kernel
theorem dX9_clock_19 : decode cX9_clock 19 = .ok (.iconst 2, 1) := by decide +kernel
theorem dX9_clock_20 : decode cX9_clock 20 = .ok (.invokestatic 92, 3) := by decide +kernel
theorem dX9_clock_23 : decode cX9_clock 23 = .ok (.ifCond .ne 6, 3) := by decide +kernel
theorem dX9_clock_26 : decode cX9_clock 26 = .ok (.ldc 96, 2) := by decide +kernel
theorem dX9_clock_28 : decode cX9_clock 28 = .ok (.ireturn, 1) := by decide +kernel
theorem dX9_clock_29 : decode cX9_clock 29 = .ok (.aload_n 0, 1) := by decide +kernel
theorem dX9_clock_30 : decode cX9_clock 30 = .ok (.getfield 33, 3) := by decide +kernel
theorem dX9_clock_33 : decode cX9_clock 33 = .ok (.aload_n 0, 1) := by decide +kernel
theorem dX9_clock_34 : decode cX9_clock 34 = .ok (.getfield 72, 3) := by decide +kernel
theorem dX9_clock_37 : decode cX9_clock 37 = .ok (.iload_n 1, 1) := by decide +kernel
theorem dX9_clock_38 : decode cX9_clock 38 = .ok (.invokevirtual 276, 3) := by decide +kernel
theorem dX9_clock_41 : decode cX9_clock 41 = .ok (.aload_n 0, 1) := by decide +kernel
theorem dX9_clock_42 : decode cX9_clock 42 = .ok (.getfield 33, 3) := by decide +kernel
theorem dX9_clock_45 : decode cX9_clock 45 = .ok (.aload_n 0, 1) := by decide +kernel
theorem dX9_clock_46 : decode cX9_clock 46 = .ok (.getfield 72, 3) := by decide +kernel
theorem dX9_clock_49 : decode cX9_clock 49 = .ok (.iload_n 1, 1) := by decide +kernel
theorem dX9_clock_50 : decode cX9_clock 50 = .ok (.iload_n 2, 1) := by decide +kernel
theorem dX9_clock_51 : decode cX9_clock 51 = .ok (.invokevirtual 279, 3) := by decide +kernel
theorem dX9_clock_54 : decode cX9_clock 54 = .ok (.iload_n 3, 1) := by decide +kernel
theorem dX9_clock_55 : decode cX9_clock 55 = .ok (.ifCond .ne 11, 3) := by decide +kernel
theorem dX9_clock_58 : decode cX9_clock 58 = .ok (.aload_n 0, 1) := by decide +kernel
theorem dX9_clock_59 : decode cX9_clock 59 = .ok (.getfield 33, 3) := by decide +kernel
theorem dX9_clock_62 : decode cX9_clock 62 = .ok (.getfield 280, 3) := by decide +kernel
theorem dX9_clock_65 : decode cX9_clock 65 = .ok (.ireturn, 1) := by decide +kernel
theorem dX9_clock_66 : decode cX9_clock 66 = .ok (.iload_n 3, 1) := by decide +kernel
theorem dX9_clock_67 : decode cX9_clock 67 = .ok (.iconst 1, 1) := by decide +kernel
theorem dX9_clock_68 : decode cX9_clock 68 = .ok (.if_icmp .ne 13, 3) := by decide +kernel
theorem dX9_clock_71 : decode cX9_clock 71 = .ok (.aload_n 0, 1) := by decide +kernel
theorem dX9_clock_72 : decode cX9_clock 72 = .ok (.getfield 33, 3) := by decide +kernel
theorem dX9_clock_75 : decode cX9_clock 75 = .ok (.getfield 283, 3) := by decide +kernel
theorem dX9_clock_78 : decode cX9_clock 78 = .ok (.goto 10, 3) := by decide +kernel
theorem dX9_clock_81 : decode cX9_clock 81 = .ok (.aload_n 0, 1) := by decide +kernel
theorem dX9_clock_82 : decode cX9_clock 82 = .ok (.getfield 33, 3) := by decide +kernel
theorem dX9_clock_85 : decode cX9_clock 85 = .ok (.getfield 284, 3) := by decide +kernel
theorem dX9_clock_88 : decode cX9_clock 88 = .ok (.ireturn, 1) := by decide +kernel
theorem dX9_smooth_0 : decode cX9_smooth 0 = .ok (.iload_n 1, 1) := by decide +kernel
theorem dX9_smooth_1 : decode cX9_smooth 1 = .ok (.iconst 4, 1) := by decide +kernel
theorem dX9_smooth_2 : decode cX9_smooth 2 = .ok (.invokestatic 84, 3) := by decide +kernel
theorem dX9_smooth_5 : decode cX9_smooth 5 = .ok (.ifCond .ne 6, 3) := by decide +kernel
theorem dX9_smooth_8 : decode cX9_smooth 8 = .ok (.ldc 96, 2) := by decide +kernel
theorem dX9_smooth_10 : decode cX9_smooth 10 = .ok (.ireturn, 1) := by decide +kernel
theorem dX9_smooth_11 : decode cX9_smooth 11 = .ok (.aload_n 0, 1) := by decide +kernel
theorem dX9_smooth_12 : decode cX9_smooth 12 = .ok (.getfield 39, 3) := by decide +kernel
theorem dX9_smooth_15 : decode cX9_smooth 15 = .ok (.iload_n 1, 1) := by decide +kernel
theorem dX9_smooth_16 : decode cX9_smooth 16 = .ok (.aaload, 1) := by decide +kernel
theorem dX9_smooth_17 : decode cX9_smooth 17 = .ok (.invokevirtual 287, 3) := by decide +kernel
theorem dX9_smooth_20 : decode cX9_smooth 20 = .ok (.ifCond .eq 9, 3) := by decide +kernel
theorem dX9_smooth_23 : decode cX9_smooth 23 = .ok (.ldc_w 290, 3) := by decide +kernel
theorem dX9_smooth_26 : decode cX9_smooth 26 = .ok (.goto 12, 3) := by decide +kernel
theorem dX9_smooth_29 : decode cX9_smooth 29 = .ok (.aload_n 0, 1) := by decide +kernel
theorem dX9_smooth_30 : decode cX9_smooth 30 = .ok (.getfield 39, 3) := by decide +kernel
theorem dX9_smooth_33 : decode cX9_smooth 33 = .ok (.iload_n 1, 1) := by decide +kernel
theorem dX9_smooth_34 : decode cX9_smooth 34 = .ok (.aaload, 1) := by decide +kernel
theorem dX9_smooth_35 : decode cX9_smooth 35 = .ok (.invokevirtual 291, 3) := by decide +kernel
theorem dX9_smooth_38 : decode cX9_smooth 38 = .ok (.ireturn, 1) := by decide +kernel
theorem dX9_changes_0 : decode cX9_changes 0 = .ok (.iload_n 1, 1) := by decide +kernel
theorem dX9_changes_1 : decode cX9_changes 1 = .ok (.iconst 4, 1) := by decide +kernel
theorem dX9_changes_2 : decode cX9_changes 2 = .ok (.invokestatic 84, 3) := by decide +kernel
theorem dX9_changes_5 : decode cX9_changes 5 = .ok (.ifCond .eq 11, 3) := by decide +kernel
theorem dX9_changes_8 : decode cX9_changes 8 = .ok (.iload_n 2, 1) := by decide +kernel
theorem dX9_changes_9 : decode cX9_changes 9 = .ok (.iconst 4, 1) := by decide +kernel
theorem dX9_changes_10 : decode cX9_changes 10 = .ok (.invokestatic 84, 3) := by decide +kernel
theorem dX9_changes_13 : decode cX9_changes 13 = .ok (.ifCond .ne 6, 3) := by decide +kernel
theorem dX9_changes_16 : decode cX9_changes 16 = .ok (.ldc 96, 2) := by decide +kernel
theorem dX9_changes_18 : decode cX9_changes 18 = .ok (.ireturn, 1) := by decide +kernel
theorem dX9_changes_19 : decode cX9_changes 19 = .ok (.aload_n 0, 1) := by decide +kernel
theorem dX9_changes_20 : decode cX9_changes 20 = .ok (.getfield 39, 3) := by decide +kernel
theorem dX9_changes_23 : decode cX9_changes 23 = .ok (.iload_n 1, 1) := by decide +kernel
theorem dX9_changes_24 : decode cX9_changes 24 = .ok (.aaload, 1) := by decide +kernel
theorem dX9_changes_25 : decode cX9_changes 25 = .ok (.astore_n 3, 1) := by decide +kernel
theorem dX9_changes_26 : decode cX9_changes 26 = .ok (.aload_n 0, 1) := by decide +kernel
theorem dX9_changes_27 : decode cX9_changes 27 = .ok (.getfield 39, 3) := by decide +kernel
theorem dX9_changes_30 : decode cX9_changes 30 = .ok (.iload_n 2, 1) := by decide +kernel
theorem dX9_changes_31 : decode cX9_changes 31 = .ok (.aaload, 1) := by decide +kernel
theorem dX9_changes_32 : decode cX9_changes 32 = .ok (.astore 4, 2) := by decide +kernel
theorem dX9_changes_34 : decode cX9_changes 34 = .ok (.aload_n 3, 1) := by decide +kernel
theorem dX9_changes_35 : decode cX9_changes 35 = .ok (.invokevirtual 287, 3) := by decide +kernel
theorem dX9_changes_38 : decode cX9_changes 38 = .ok (.ifCond .ne 11, 3) := by decide +kernel
theorem dX9_changes_41 : decode cX9_changes 41 = .ok (.aload 4, 2) := by decide +kernel
theorem dX9_changes_43 : decode cX9_changes 43 = .ok (.invokevirtual 287, 3) := by decide +kernel
theorem dX9_changes_46 : decode cX9_changes 46 = .ok (.ifCond .eq 7, 3) := by decide +kernel
theorem dX9_changes_49 : decode cX9_changes 49 = .ok (.ldc_w 290, 3) := by decide +kernel
theorem dX9_changes_52 : decode cX9_changes 52 = .ok (.ireturn, 1) := by decide +kernel
theorem dX9_changes_53 : decode cX9_changes 53 = .ok (.aload_n 3, 1) := by decide +kernel
theorem dX9_changes_54 : decode cX9_changes 54 = .ok (.getfield 294, 3) := by decide +kernel
theorem dX9_changes_57 : decode cX9_changes 57 = .ok (.aload 4, 2) := by decide +kernel
theorem dX9_changes_59 : decode cX9_changes 59 = .ok (.getfield 294, 3) := by decide +kernel
theorem dX9_changes_62 : decode cX9_changes 62 = .ok (.if_icmp .eq 8, 3) := by decide +kernel
theorem dX9_changes_65 : decode cX9_changes 65 = .ok (.ldc 156, 2) := by decide +kernel
theorem dX9_changes_67 : decode cX9_changes 67 = .ok (.goto 10, 3) := by decide +kernel
theorem dX9_changes_70 : decode cX9_changes 70 = .ok (.aload_n 0, 1) := by decide +kernel
theorem dX9_changes_71 : decode cX9_changes 71 = .ok (.aload_n 3, 1) := by decide +kernel
theorem dX9_changes_72 : decode cX9_changes 72 = .ok (.aload 4, 2) := by decide +kernel
theorem dX9_changes_74 : decode cX9_changes 74 = .ok (.invokevirtual 297, 3) := by decide +kernel
theorem dX9_changes_77 : decode cX9_changes 77 = .ok (.ireturn, 1) := by decide +kernel
theorem dX9_from_0 : decode cX9_from 0 = .ok (.iload_n 1, 1) := by decide +kernel
theorem dX9_from_1 : decode cX9_from 1 = .ok (.iconst 4, 1) := by decide +kernel
theorem dX9_from_2 : decode cX9_from 2 = .ok (.invokestatic 84, 3) := by decide +kernel
theorem dX9_from_5 : decode cX9_from 5 = .ok (.ifCond .ne 6, 3) := by decide +kernel
theorem dX9_from_8 : decode cX9_from 8 = .ok (.ldc 96, 2) := by decide +kernel
theorem dX9_from_10 : decode cX9_from 10 = .ok (.ireturn, 1) := by decide +kernel
theorem dX9_from_11 : decode cX9_from 11 = .ok (.aload_n 0, 1) := by decide +kernel
theorem dX9_from_12 : decode cX9_from 12 = .ok (.getfield 39, 3) := by decide +kernel
theorem dX9_from_15 : decode cX9_from 15 = .ok (.iload_n 1, 1) := by decide +kernel
theorem dX9_from_16 : decode cX9_from 16 = .ok (.aaload, 1) := by decide +kernel
theorem dX9_from_17 : decode cX9_from 17 = .ok (.astore_n 2, 1) := by decide +kernel
theorem dX9_from_18 : decode cX9_from 18 = .ok (.aload_n 2, 1) := by decide +kernel
theorem dX9_from_19 : decode cX9_from 19 = .ok (.invokevirtual 287, 3) := by decide +kernel
theorem dX9_from_22 : decode cX9_from 22 = .ok (.ifCond .eq 7, 3) := by decide +kernel
theorem dX9_from_25 : decode cX9_from 25 = .ok (.ldc_w 290, 3) := by decide +kernel
theorem dX9_from_28 : decode cX9_from 28 = .ok (.ireturn, 1) := by decide +kernel
theorem dX9_from_29 : decode cX9_from 29 = .ok (.ldc 157, 2) := by decide +kernel
theorem dX9_from_31 : decode cX9_from 31 = .ok (.istore_n 3, 1) := by decide +kernel
theorem dX9_from_32 : decode cX9_from 32 = .ok (.iconst 0, 1) := by decide +kernel
theorem dX9_from_33 : decode cX9_from 33 = .ok (.istore 4, 2) := by decide +kernel
theorem dX9_from_35 : decode cX9_from 35 = .ok (.iconst 0, 1) := by decide +kernel
theorem dX9_from_36 : decode cX9_from 36 = .ok (.istore 5, 2) := by decide +kernel
theorem dX9_from_38 : decode cX9_from 38 = .ok (.iload 5, 2) := by decide +kernel
theorem dX9_from_40 : decode cX9_from 40 = .ok (.iconst 4, 1) := by decide +kernel
theorem dX9_from_41 : decode cX9_from 41 = .ok (.if_icmp .ge 66, 3) := by decide +kernel
theorem dX9_from_44 : decode cX9_from 44 = .ok (.iload 5, 2) := by decide +kernel
theorem dX9_from_46 : decode cX9_from 46 = .ok (.iload_n 1, 1) := by decide +kernel
theorem dX9_from_47 : decode cX9_from 47 = .ok (.if_icmp .eq 54, 3) := by decide +kernel
theorem dX9_from_50 : decode cX9_from 50 = .ok (.aload_n 0, 1) := by decide +kernel
theorem dX9_from_51 : decode cX9_from 51 = .ok (.getfield 39, 3) := by decide +kernel
theorem dX9_from_54 : decode cX9_from 54 = .ok (.iload 5, 2) := by decide +kernel
theorem dX9_from_56 : decode cX9_from 56 = .ok (.aaload, 1) := by decide +kernel
theorem dX9_from_57 : decode cX9_from 57 = .ok (.getfield 294, 3) := by decide +kernel
theorem dX9_from_60 : decode cX9_from 60 = .ok (.aload_n 2, 1) := by decide +kernel
theorem dX9_from_61 : decode cX9_from 61 = .ok (.getfield 294, 3) := by decide +kernel
theorem dX9_from_64 : decode cX9_from 64 = .ok (.if_icmp .ne 37, 3) := by decide +kernel
theorem dX9_from_67 : decode cX9_from 67 = .ok (.aload_n 0, 1) := by decide +kernel
theorem dX9_from_68 : decode cX9_from 68 = .ok (.aload_n 0, 1) := by decide +kernel
theorem dX9_from_69 : decode cX9_from 69 = .ok (.getfield 39, 3) := by decide +kernel
theorem dX9_from_72 : decode cX9_from 72 = .ok (.iload 5, 2) := by decide +kernel
theorem dX9_from_74 : decode cX9_from 74 = .ok (.aaload, 1) := by decide +kernel
theorem dX9_from_75 : decode cX9_from 75 = .ok (.aload_n 2, 1) := by decide +kernel
theorem dX9_from_76 : decode cX9_from 76 = .ok (.invokevirtual 297, 3) := by decide +kernel
theorem dX9_from_79 : decode cX9_from 79 = .ok (.istore 6, 2) := by decide +kernel
theorem dX9_from_81 : decode cX9_from 81 = .ok (.iload_n 3, 1) := by decide +kernel
theorem dX9_from_82 : decode cX9_from 82 = .ok (.ldc 157, 2) := by decide +kernel
theorem dX9_from_84 : decode cX9_from 84 = .ok (.if_icmp .eq 10, 3) := by decide +kernel
theorem dX9_from_87 : decode cX9_from 87 = .ok (.iload 6, 2) := by decide +kernel
theorem dX9_from_89 : decode cX9_from 89 = .ok (.iload 4, 2) := by decide +kernel
theorem dX9_from_91 : decode cX9_from 91 = .ok (.if_icmp .ge 10, 3) := by decide +kernel
theorem dX9_from_94 : decode cX9_from 94 = .ok (.iload 5, 2) := by decide +kernel
theorem dX9_from_96 : decode cX9_from 96 = .ok (.istore_n 3, 1) := by decide +kernel
theorem dX9_from_97 : decode cX9_from 97 = .ok (.iload 6, 2) := by decide +kernel
theorem dX9_from_99 : decode cX9_from 99 = .ok (.istore 4, 2) := by decide +kernel
theorem dX9_from_101 : decode cX9_from 101 = .ok (.iinc 5 1, 3) := by decide +kernel
theorem dX9_from_104 : decode cX9_from 104 = .ok (.goto (-66), 3) := by decide +kernel
theorem dX9_from_107 : decode cX9_from 107 = .ok (.iload_n 3, 1) := by decide +kernel
theorem dX9_from_108 : decode cX9_from 108 = .ok (.ireturn, 1) := by decide +kernel
theorem dX9_court_0 : decode cX9_court 0 = .ok (.iload_n 1, 1) := by decide +kernel
theorem dX9_court_1 : decode cX9_court 1 = .ok (.bipush 9, 2) := by decide +kernel
theorem dX9_court_3 : decode cX9_court 3 = .ok (.invokestatic 84, 3) := by decide +kernel
theorem dX9_court_6 : decode cX9_court 6 = .ok (.ifCond .eq 37, 3) := by decide +kernel
theorem dX9_court_9 : decode cX9_court 9 = .ok (.iload_n 2, 1) := by decide +kernel
theorem dX9_court_10 : decode cX9_court 10 = .ok (.bipush (-99), 2) := by decide +kernel
theorem dX9_court_12 : decode cX9_court 12 = .ok (.bipush 99, 2) := by decide +kernel
theorem dX9_court_14 : decode cX9_court 14 = .ok (.invokestatic 92, 3) := by decide +kernel
theorem dX9_court_17 : decode cX9_court 17 = .ok (.ifCond .eq 26, 3) := by decide +kernel
theorem dX9_court_20 : decode cX9_court 20 = .ok (.iload_n 3, 1) := by decide +kernel
theorem dX9_court_21 : decode cX9_court 21 = .ok (.iconst 0, 1) := by decide +kernel
theorem dX9_court_22 : decode cX9_court 22 = .ok (.sipush 1999, 3) := by decide +kernel
theorem dX9_court_25 : decode cX9_court 25 = .ok (.invokestatic 92, 3) := by decide +kernel
theorem dX9_court_28 : decode cX9_court 28 = .ok (.ifCond .eq 15, 3) := by decide +kernel
theorem dX9_court_31 : decode cX9_court 31 = .ok (.iload 4, 2) := by decide +kernel
theorem dX9_court_33 : decode cX9_court 33 = .ok (.iload_n 3, 1) := by decide +kernel
theorem dX9_court_34 : decode cX9_court 34 = .ok (.sipush 1999, 3) := by decide +kernel
theorem dX9_court_37 : decode cX9_court 37 = .ok (.invokestatic 92, 3) := by decide +kernel
theorem dX9_court_40 : decode cX9_court 40 = .ok (.ifCond .ne 6, 3) := by decide +kernel
theorem dX9_court_43 : decode cX9_court 43 = .ok (.ldc 96, 2) := by decide +kernel
theorem dX9_court_45 : decode cX9_court 45 = .ok (.ireturn, 1) := by decide +kernel
theorem dX9_court_46 : decode cX9_court 46 = .ok (.aload_n 0, 1) := by decide +kernel
theorem dX9_court_47 : decode cX9_court 47 = .ok (.getfield 19, 3) := by decide +kernel
theorem dX9_court_50 : decode cX9_court 50 = .ok (.aload_n 0, 1) := by decide +kernel
theorem dX9_court_51 : decode cX9_court 51 = .ok (.getfield 72, 3) := by decide +kernel
theorem dX9_court_54 : decode cX9_court 54 = .ok (.iload_n 1, 1) := by decide +kernel
theorem dX9_court_55 : decode cX9_court 55 = .ok (.invokevirtual 194, 3) := by decide +kernel
theorem dX9_court_58 : decode cX9_court 58 = .ok (.aload_n 0, 1) := by decide +kernel
theorem dX9_court_59 : decode cX9_court 59 = .ok (.getfield 19, 3) := by decide +kernel
theorem dX9_court_62 : decode cX9_court 62 = .ok (.invokevirtual 212, 3) := by decide +kernel
theorem dX9_court_65 : decode cX9_court 65 = .ok (.ifCond .ne 6, 3) := by decide +kernel
theorem dX9_court_68 : decode cX9_court 68 = .ok (.ldc 224, 2) := by decide +kernel
theorem dX9_court_70 : decode cX9_court 70 = .ok (.ireturn, 1) := by decide +kernel
theorem dX9_court_71 : decode cX9_court 71 = .ok (.aload_n 0, 1) := by decide +kernel
theorem dX9_court_72 : decode cX9_court 72 = .ok (.getfield 19, 3) := by decide +kernel
theorem dX9_court_75 : decode cX9_court 75 = .ok (.getfield 203, 3) := by decide +kernel
theorem dX9_court_78 : decode cX9_court 78 = .ok (.iload_n 2, 1) := by decide +kernel
theorem dX9_court_79 : decode cX9_court 79 = .ok (.iadd, 1) := by decide +kernel
theorem dX9_court_80 : decode cX9_court 80 = .ok (.istore 5, 2) := by decide +kernel
theorem dX9_court_82 : decode cX9_court 82 = .ok (.aload_n 0, 1) := by decide +kernel
theorem dX9_court_83 : decode cX9_court 83 = .ok (.getfield 19, 3) := by decide +kernel
theorem dX9_court_86 : decode cX9_court 86 = .ok (.getfield 206, 3) := by decide +kernel
theorem dX9_court_89 : decode cX9_court 89 = .ok (.iload_n 2, 1) := by decide +kernel
theorem dX9_court_90 : decode cX9_court 90 = .ok (.iadd, 1) := by decide +kernel
theorem dX9_court_91 : decode cX9_court 91 = .ok (.istore 6, 2) := by decide +kernel
theorem dX9_court_93 : decode cX9_court 93 = .ok (.iload_n 3, 1) := by decide +kernel
theorem dX9_court_94 : decode cX9_court 94 = .ok (.iload 5, 2) := by decide +kernel
theorem dX9_court_96 : decode cX9_court 96 = .ok (.if_icmp .gt 12, 3) := by decide +kernel
theorem dX9_court_99 : decode cX9_court 99 = .ok (.iload 6, 2) := by decide +kernel
theorem dX9_court_101 : decode cX9_court 101 = .ok (.iload 4, 2) := by decide +kernel
theorem dX9_court_103 : decode cX9_court 103 = .ok (.if_icmp .gt 5, 3) := by decide +kernel
theorem dX9_court_106 : decode cX9_court 106 = .ok (.iconst 2, 1) := by decide +kernel
theorem dX9_court_107 : decode cX9_court 107 = .ok (.ireturn, 1) := by decide +kernel
theorem dX9_court_108 : decode cX9_court 108 = .ok (.iload 6, 2) := by decide +kernel
theorem dX9_court_110 : decode cX9_court 110 = .ok (.iload_n 3, 1) := by decide +kernel
theorem dX9_court_111 : decode cX9_court 111 = .ok (.if_icmp .lt 10, 3) := by decide +kernel
theorem dX9_court_114 : decode cX9_court 114 = .ok (.iload 4, 2) := by decide +kernel
theorem dX9_court_116 : decode cX9_court 116 = .ok (.iload 5, 2) := by decide +kernel
theorem dX9_court_118 : decode cX9_court 118 = .ok (.if_icmp .ge 7, 3) := by decide +kernel
theorem dX9_court_121 : decode cX9_court 121 = .ok (.iconst 0, 1) := by decide +kernel
theorem dX9_court_122 : decode cX9_court 122 = .ok (.goto 4, 3) := by decide +kernel
theorem dX9_court_125 : decode cX9_court 125 = .ok (.iconst 1, 1) := by decide +kernel
theorem dX9_court_126 : decode cX9_court 126 = .ok (.ireturn, 1) := by decide +kernel
theorem dX9_survey_0 : decode cX9_survey 0 = .ok (.iload_n 1, 1) := by decide +kernel
theorem dX9_survey_1 : decode cX9_survey 1 = .ok (.bipush 9, 2) := by decide +kernel
theorem dX9_survey_3 : decode cX9_survey 3 = .ok (.invokestatic 84, 3) := by decide +kernel
theorem dX9_survey_6 : decode cX9_survey 6 = .ok (.ifCond .eq 13, 3) := by decide +kernel
theorem dX9_survey_9 : decode cX9_survey 9 = .ok (.iload_n 2, 1) := by decide +kernel
theorem dX9_survey_10 : decode cX9_survey 10 = .ok (.sipush 1000, 3) := by decide +kernel
theorem dX9_survey_13 : decode cX9_survey 13 = .ok (.invokestatic 84, 3) := by decide +kernel
theorem dX9_survey_16 : decode cX9_survey 16 = .ok (.ifCond .ne 6, 3) := by decide +kernel
theorem dX9_survey_19 : decode cX9_survey 19 = .ok (.ldc 96, 2) := by decide +kernel
theorem dX9_survey_21 : decode cX9_survey 21 = .ok (.ireturn, 1) := by decide +kernel
theorem dX9_survey_22 : decode cX9_survey 22 = .ok (.aload_n 0, 1) := by decide +kernel
theorem dX9_survey_23 : decode cX9_survey 23 = .ok (.getfield 72, 3) := by decide +kernel
theorem dX9_survey_26 : decode cX9_survey 26 = .ok (.getfield 301, 3) := by decide +kernel
theorem dX9_survey_29 : decode cX9_survey 29 = .ok (.iload_n 1, 1) := by decide +kernel
theorem dX9_survey_30 : decode cX9_survey 30 = .ok (.iaload, 1) := by decide +kernel
theorem dX9_survey_31 : decode cX9_survey 31 = .ok (.istore_n 3, 1) := by decide +kernel
theorem dX9_survey_32 : decode cX9_survey 32 = .ok (.aload_n 0, 1) := by decide +kernel
theorem dX9_survey_33 : decode cX9_survey 33 = .ok (.getfield 72, 3) := by decide +kernel
theorem dX9_survey_36 : decode cX9_survey 36 = .ok (.getfield 301, 3) := by decide +kernel
theorem dX9_survey_39 : decode cX9_survey 39 = .ok (.iload_n 1, 1) := by decide +kernel
theorem dX9_survey_40 : decode cX9_survey 40 = .ok (.iload_n 2, 1) := by decide +kernel
theorem dX9_survey_41 : decode cX9_survey 41 = .ok (.iastore, 1) := by decide +kernel
theorem dX9_survey_42 : decode cX9_survey 42 = .ok (.iload_n 3, 1) := by decide +kernel
theorem dX9_survey_43 : decode cX9_survey 43 = .ok (.ireturn, 1) := by decide +kernel
theorem dX9_held_0 : decode cX9_held 0 = .ok (.iconst 0, 1) := by decide +kernel
theorem dX9_held_1 : decode cX9_held 1 = .ok (.istore_n 1, 1) := by decide +kernel
theorem dX9_held_2 : decode cX9_held 2 = .ok (.iconst 0, 1) := by decide +kernel
theorem dX9_held_3 : decode cX9_held 3 = .ok (.istore_n 2, 1) := by decide +kernel
theorem dX9_held_4 : decode cX9_held 4 = .ok (.iload_n 2, 1) := by decide +kernel
theorem dX9_held_5 : decode cX9_held 5 = .ok (.bipush 9, 2) := by decide +kernel
theorem dX9_held_7 : decode cX9_held 7 = .ok (.if_icmp .ge 80, 3) := by decide +kernel
theorem dX9_held_10 : decode cX9_held 10 = .ok (.aload_n 0, 1) := by decide +kernel
theorem dX9_held_11 : decode cX9_held 11 = .ok (.getfield 19, 3) := by decide +kernel
theorem dX9_held_14 : decode cX9_held 14 = .ok (.aload_n 0, 1) := by decide +kernel
theorem dX9_held_15 : decode cX9_held 15 = .ok (.getfield 72, 3) := by decide +kernel
theorem dX9_held_18 : decode cX9_held 18 = .ok (.iload_n 2, 1) := by decide +kernel
theorem dX9_held_19 : decode cX9_held 19 = .ok (.invokevirtual 194, 3) := by decide +kernel
theorem dX9_held_22 : decode cX9_held 22 = .ok (.aload_n 0, 1) := by decide +kernel
theorem dX9_held_23 : decode cX9_held 23 = .ok (.getfield 72, 3) := by decide +kernel
theorem dX9_held_26 : decode cX9_held 26 = .ok (.getfield 301, 3) := by decide +kernel
theorem dX9_held_29 : decode cX9_held 29 = .ok (.iload_n 2, 1) := by decide +kernel
theorem dX9_held_30 : decode cX9_held 30 = .ok (.iaload, 1) := by decide +kernel
theorem dX9_held_31 : decode cX9_held 31 = .ok (.ldc 157, 2) := by decide +kernel
theorem dX9_held_33 : decode cX9_held 33 = .ok (.if_icmp .eq 48, 3) := by decide +kernel
theorem dX9_held_36 : decode cX9_held 36 = .ok (.aload_n 0, 1) := by decide +kernel
theorem dX9_held_37 : decode cX9_held 37 = .ok (.getfield 19, 3) := by decide +kernel
theorem dX9_held_40 : decode cX9_held 40 = .ok (.invokevirtual 212, 3) := by decide +kernel
theorem dX9_held_43 : decode cX9_held 43 = .ok (.ifCond .eq 38, 3) := by decide +kernel
theorem dX9_held_46 : decode cX9_held 46 = .ok (.aload_n 0, 1) := by decide +kernel
theorem dX9_held_47 : decode cX9_held 47 = .ok (.getfield 72, 3) := by decide +kernel
theorem dX9_held_50 : decode cX9_held 50 = .ok (.getfield 301, 3) := by decide +kernel
theorem dX9_held_53 : decode cX9_held 53 = .ok (.iload_n 2, 1) := by decide +kernel
theorem dX9_held_54 : decode cX9_held 54 = .ok (.iaload, 1) := by decide +kernel
theorem dX9_held_55 : decode cX9_held 55 = .ok (.aload_n 0, 1) := by decide +kernel
theorem dX9_held_56 : decode cX9_held 56 = .ok (.getfield 19, 3) := by decide +kernel
theorem dX9_held_59 : decode cX9_held 59 = .ok (.getfield 203, 3) := by decide +kernel
theorem dX9_held_62 : decode cX9_held 62 = .ok (.aload_n 0, 1) := by decide +kernel
theorem dX9_held_63 : decode cX9_held 63 = .ok (.getfield 19, 3) := by decide +kernel
theorem dX9_held_66 : decode cX9_held 66 = .ok (.getfield 206, 3) := by decide +kernel
theorem dX9_held_69 : decode cX9_held 69 = .ok (.invokestatic 92, 3) := by decide +kernel
theorem dX9_held_72 : decode cX9_held 72 = .ok (.ifCond .eq 9, 3) := by decide +kernel
theorem dX9_held_75 : decode cX9_held 75 = .ok (.iload_n 1, 1) := by decide +kernel
theorem dX9_held_76 : decode cX9_held 76 = .ok (.iconst 1, 1) := by decide +kernel
theorem dX9_held_77 : decode cX9_held 77 = .ok (.iload_n 2, 1) := by decide +kernel
theorem dX9_held_78 : decode cX9_held 78 = .ok (.ishl, 1) := by decide +kernel
theorem dX9_held_79 : decode cX9_held 79 = .ok (.ior, 1) := by decide +kernel
theorem dX9_held_80 : decode cX9_held 80 = .ok (.istore_n 1, 1) := by decide +kernel
theorem dX9_held_81 : decode cX9_held 81 = .ok (.iinc 2 1, 3) := by decide +kernel
theorem dX9_held_84 : decode cX9_held 84 = .ok (.goto (-80), 3) := by decide +kernel
theorem dX9_held_87 : decode cX9_held 87 = .ok (.iload_n 1, 1) := by decide +kernel
theorem dX9_held_88 : decode cX9_held 88 = .ok (.ireturn, 1) := by decide +kernel
theorem dX9_misses_0 : decode cX9_misses 0 = .ok (.iload_n 1, 1) := by decide +kernel
theorem dX9_misses_1 : decode cX9_misses 1 = .ok (.iconst 3, 1) := by decide +kernel
theorem dX9_misses_2 : decode cX9_misses 2 = .ok (.invokestatic 84, 3) := by decide +kernel
theorem dX9_misses_5 : decode cX9_misses 5 = .ok (.ifCond .eq 12, 3) := by decide +kernel
theorem dX9_misses_8 : decode cX9_misses 8 = .ok (.iload_n 2, 1) := by decide +kernel
theorem dX9_misses_9 : decode cX9_misses 9 = .ok (.iconst 0, 1) := by decide +kernel
theorem dX9_misses_10 : decode cX9_misses 10 = .ok (.iconst 1, 1) := by decide +kernel
theorem dX9_misses_11 : decode cX9_misses 11 = .ok (.invokestatic 92, 3) := by decide +kernel
theorem dX9_misses_14 : decode cX9_misses 14 = .ok (.ifCond .ne 6, 3) := by decide +kernel
theorem dX9_misses_17 : decode cX9_misses 17 = .ok (.ldc 96, 2) := by decide +kernel
theorem dX9_misses_19 : decode cX9_misses 19 = .ok (.ireturn, 1) := by decide +kernel
theorem dX9_misses_20 : decode cX9_misses 20 = .ok (.iload_n 2, 1) := by decide +kernel
theorem dX9_misses_21 : decode cX9_misses 21 = .ok (.ifCond .ne 14, 3) := by decide +kernel
theorem dX9_misses_24 : decode cX9_misses 24 = .ok (.aload_n 0, 1) := by decide +kernel
theorem dX9_misses_25 : decode cX9_misses 25 = .ok (.getfield 72, 3) := by decide +kernel
theorem dX9_misses_28 : decode cX9_misses 28 = .ok (.iload_n 1, 1) := by decide +kernel
theorem dX9_misses_29 : decode cX9_misses 29 = .ok (.invokevirtual 304, 3) := by decide +kernel
theorem dX9_misses_32 : decode cX9_misses 32 = .ok (.goto 11, 3) := by decide +kernel
theorem dX9_misses_35 : decode cX9_misses 35 = .ok (.aload_n 0, 1) := by decide +kernel
theorem dX9_misses_36 : decode cX9_misses 36 = .ok (.getfield 72, 3) := by decide +kernel
theorem dX9_misses_39 : decode cX9_misses 39 = .ok (.iload_n 1, 1) := by decide +kernel
theorem dX9_misses_40 : decode cX9_misses 40 = .ok (.invokevirtual 307, 3) := by decide +kernel
theorem dX9_misses_43 : decode cX9_misses 43 = .ok (.ireturn, 1) := by decide +kernel
theorem dX9_best_0 : decode cX9_best 0 = .ok (.ldc 157, 2) := by decide +kernel
theorem dX9_best_2 : decode cX9_best 2 = .ok (.istore_n 1, 1) := by decide +kernel
theorem dX9_best_3 : decode cX9_best 3 = .ok (.iconst 0, 1) := by decide +kernel
theorem dX9_best_4 : decode cX9_best 4 = .ok (.istore_n 2, 1) := by decide +kernel
theorem dX9_best_5 : decode cX9_best 5 = .ok (.iconst 0, 1) := by decide +kernel
theorem dX9_best_6 : decode cX9_best 6 = .ok (.istore_n 3, 1) := by decide +kernel
theorem dX9_best_7 : decode cX9_best 7 = .ok (.iload_n 3, 1) := by decide +kernel
theorem dX9_best_8 : decode cX9_best 8 = .ok (.iconst 3, 1) := by decide +kernel
theorem dX9_best_9 : decode cX9_best 9 = .ok (.if_icmp .ge 54, 3) := by decide +kernel
theorem dX9_best_12 : decode cX9_best 12 = .ok (.aload_n 0, 1) := by decide +kernel
theorem dX9_best_13 : decode cX9_best 13 = .ok (.getfield 72, 3) := by decide +kernel
theorem dX9_best_16 : decode cX9_best 16 = .ok (.iload_n 3, 1) := by decide +kernel
theorem dX9_best_17 : decode cX9_best 17 = .ok (.invokevirtual 307, 3) := by decide +kernel
theorem dX9_best_20 : decode cX9_best 20 = .ok (.istore 4, 2) := by decide +kernel
theorem dX9_best_22 : decode cX9_best 22 = .ok (.iload 4, 2) := by decide +kernel
theorem dX9_best_24 : decode cX9_best 24 = .ok (.ifCond .le 33, 3) := by decide +kernel
theorem dX9_best_27 : decode cX9_best 27 = .ok (.aload_n 0, 1) := by decide +kernel
theorem dX9_best_28 : decode cX9_best 28 = .ok (.getfield 72, 3) := by decide +kernel
theorem dX9_best_31 : decode cX9_best 31 = .ok (.iload_n 3, 1) := by decide +kernel
theorem dX9_best_32 : decode cX9_best 32 = .ok (.invokevirtual 304, 3) := by decide +kernel
theorem dX9_best_35 : decode cX9_best 35 = .ok (.iload 4, 2) := by decide +kernel
theorem dX9_best_37 : decode cX9_best 37 = .ok (.idiv, 1) := by decide +kernel
theorem dX9_best_38 : decode cX9_best 38 = .ok (.istore 5, 2) := by decide +kernel
theorem dX9_best_40 : decode cX9_best 40 = .ok (.iload_n 1, 1) := by decide +kernel
theorem dX9_best_41 : decode cX9_best 41 = .ok (.ldc 157, 2) := by decide +kernel
theorem dX9_best_43 : decode cX9_best 43 = .ok (.if_icmp .eq 9, 3) := by decide +kernel
theorem dX9_best_46 : decode cX9_best 46 = .ok (.iload 5, 2) := by decide +kernel
theorem dX9_best_48 : decode cX9_best 48 = .ok (.iload_n 2, 1) := by decide +kernel
theorem dX9_best_49 : decode cX9_best 49 = .ok (.if_icmp .ge 8, 3) := by decide +kernel
theorem dX9_best_52 : decode cX9_best 52 = .ok (.iload_n 3, 1) := by decide +kernel
theorem dX9_best_53 : decode cX9_best 53 = .ok (.istore_n 1, 1) := by decide +kernel
theorem dX9_best_54 : decode cX9_best 54 = .ok (.iload 5, 2) := by decide +kernel
theorem dX9_best_56 : decode cX9_best 56 = .ok (.istore_n 2, 1) := by decide +kernel
theorem dX9_best_57 : decode cX9_best 57 = .ok (.iinc 3 1, 3) := by decide +kernel
theorem dX9_best_60 : decode cX9_best 60 = .ok (.goto (-53), 3) := by decide +kernel
theorem dX9_best_63 : decode cX9_best 63 = .ok (.iload_n 1, 1) := by decide +kernel
theorem dX9_best_64 : decode cX9_best 64 = .ok (.ireturn, 1) := by decide +kernel
theorem dX9_seed_0 : decode cX9_seed 0 = .ok (.aload_n 0, 1) := by decide +kernel
theorem dX9_seed_1 : decode cX9_seed 1 = .ok (.getfield 72, 3) := by decide +kernel
theorem dX9_seed_4 : decode cX9_seed 4 = .ok (.getfield 310, 3) := by decide +kernel
theorem dX9_seed_7 : decode cX9_seed 7 = .ok (.istore_n 2, 1) := by decide +kernel
theorem dX9_seed_8 : decode cX9_seed 8 = .ok (.aload_n 0, 1) := by decide +kernel
theorem dX9_seed_9 : decode cX9_seed 9 = .ok (.getfield 72, 3) := by decide +kernel
theorem dX9_seed_12 : decode cX9_seed 12 = .ok (.iload_n 1, 1) := by decide +kernel
theorem dX9_seed_13 : decode cX9_seed 13 = .ok (.putfield 310, 3) := by decide +kernel
theorem dX9_seed_16 : decode cX9_seed 16 = .ok (.iload_n 2, 1) := by decide +kernel
theorem dX9_seed_17 : decode cX9_seed 17 = .ok (.ireturn, 1) := by decide +kernel
theorem dX9_share_0 : decode cX9_share 0 = .ok (.iload_n 1, 1) := by decide +kernel
theorem dX9_share_1 : decode cX9_share 1 = .ok (.iconst 1, 1) := by decide +kernel
theorem dX9_share_2 : decode cX9_share 2 = .ok (.bipush 100, 2) := by decide +kernel
theorem dX9_share_4 : decode cX9_share 4 = .ok (.invokestatic 92, 3) := by decide +kernel
theorem dX9_share_7 : decode cX9_share 7 = .ok (.ifCond .eq 25, 3) := by decide +kernel
theorem dX9_share_10 : decode cX9_share 10 = .ok (.iload_n 2, 1) := by decide +kernel
theorem dX9_share_11 : decode cX9_share 11 = .ok (.iconst 0, 1) := by decide +kernel
theorem dX9_share_12 : decode cX9_share 12 = .ok (.sipush 200, 3) := by decide +kernel
theorem dX9_share_15 : decode cX9_share 15 = .ok (.invokestatic 92, 3) := by decide +kernel
theorem dX9_share_18 : decode cX9_share 18 = .ok (.ifCond .eq 14, 3) := by decide +kernel
theorem dX9_share_21 : decode cX9_share 21 = .ok (.iload_n 3, 1) := by decide +kernel
theorem dX9_share_22 : decode cX9_share 22 = .ok (.iconst 0, 1) := by decide +kernel
theorem dX9_share_23 : decode cX9_share 23 = .ok (.sipush 200, 3) := by decide +kernel
theorem dX9_share_26 : decode cX9_share 26 = .ok (.invokestatic 92, 3) := by decide +kernel
theorem dX9_share_29 : decode cX9_share 29 = .ok (.ifCond .ne 6, 3) := by decide +kernel
theorem dX9_share_32 : decode cX9_share 32 = .ok (.ldc 96, 2) := by decide +kernel
theorem dX9_share_34 : decode cX9_share 34 = .ok (.ireturn, 1) := by decide +kernel
theorem dX9_share_35 : decode cX9_share 35 = .ok (.iconst 0, 1) := by decide +kernel
theorem dX9_share_36 : decode cX9_share 36 = .ok (.istore 4, 2) := by decide +kernel
theorem dX9_share_38 : decode cX9_share 38 = .ok (.iconst 0, 1) := by decide +kernel
theorem dX9_share_39 : decode cX9_share 39 = .ok (.istore 5, 2) := by decide +kernel
theorem dX9_share_41 : decode cX9_share 41 = .ok (.iload 5, 2) := by decide +kernel
theorem dX9_share_43 : decode cX9_share 43 = .ok (.iload_n 1, 1) := by decide +kernel
theorem dX9_share_44 : decode cX9_share 44 = .ok (.if_icmp .ge 31, 3) := by decide +kernel
theorem dX9_share_47 : decode cX9_share 47 = .ok (.iload 4, 2) := by decide +kernel
theorem dX9_share_49 : decode cX9_share 49 = .ok (.aload_n 0, 1) := by decide +kernel
theorem dX9_share_50 : decode cX9_share 50 = .ok (.getfield 72, 3) := by decide +kernel
theorem dX9_share_53 : decode cX9_share 53 = .ok (.iload_n 2, 1) := by decide +kernel
theorem dX9_share_54 : decode cX9_share 54 = .ok (.iload_n 3, 1) := by decide +kernel
theorem dX9_share_55 : decode cX9_share 55 = .ok (.invokevirtual 313, 3) := by decide +kernel
theorem dX9_share_58 : decode cX9_share 58 = .ok (.ifCond .eq 7, 3) := by decide +kernel
theorem dX9_share_61 : decode cX9_share 61 = .ok (.iconst 1, 1) := by decide +kernel
theorem dX9_share_62 : decode cX9_share 62 = .ok (.goto 4, 3) := by decide +kernel
theorem dX9_share_65 : decode cX9_share 65 = .ok (.iconst 0, 1) := by decide +kernel
theorem dX9_share_66 : decode cX9_share 66 = .ok (.iadd, 1) := by decide +kernel
theorem dX9_share_67 : decode cX9_share 67 = .ok (.istore 4, 2) := by decide +kernel
theorem dX9_share_69 : decode cX9_share 69 = .ok (.iinc 5 1, 3) := by decide +kernel
theorem dX9_share_72 : decode cX9_share 72 = .ok (.goto (-31), 3) := by decide +kernel
theorem dX9_share_75 : decode cX9_share 75 = .ok (.iload 4, 2) := by decide +kernel
theorem dX9_share_77 : decode cX9_share 77 = .ok (.ireturn, 1) := by decide +kernel
theorem dX9_sheet_0 : decode cX9_sheet 0 = .ok (.iload_n 1, 1) := by decide +kernel
theorem dX9_sheet_1 : decode cX9_sheet 1 = .ok (.iconst 4, 1) := by decide +kernel
theorem dX9_sheet_2 : decode cX9_sheet 2 = .ok (.invokestatic 84, 3) := by decide +kernel
theorem dX9_sheet_5 : decode cX9_sheet 5 = .ok (.ifCond .eq 12, 3) := by decide +kernel
theorem dX9_sheet_8 : decode cX9_sheet 8 = .ok (.iload_n 2, 1) := by decide +kernel
theorem dX9_sheet_9 : decode cX9_sheet 9 = .ok (.iconst (-1), 1) := by decide +kernel
theorem dX9_sheet_10 : decode cX9_sheet 10 = .ok (.iconst 1, 1) := by decide +kernel
theorem dX9_sheet_11 : decode cX9_sheet 11 = .ok (.invokestatic 92, 3) := by decide +kernel
theorem dX9_sheet_14 : decode cX9_sheet 14 = .ok (.ifCond .ne 6, 3) := by decide +kernel
theorem dX9_sheet_17 : decode cX9_sheet 17 = .ok (.ldc 96, 2) := by decide +kernel
theorem dX9_sheet_19 : decode cX9_sheet 19 = .ok (.ireturn, 1) := by decide +kernel
theorem dX9_sheet_20 : decode cX9_sheet 20 = .ok (.iload_n 2, 1) := by decide +kernel
theorem dX9_sheet_21 : decode cX9_sheet 21 = .ok (.iconst (-1), 1) := by decide +kernel
theorem dX9_sheet_22 : decode cX9_sheet 22 = .ok (.if_icmp .ne 7, 3) := by decide +kernel
theorem dX9_sheet_25 : decode cX9_sheet 25 = .ok (.iconst 0, 1) := by decide +kernel
theorem dX9_sheet_26 : decode cX9_sheet 26 = .ok (.goto 4, 3) := by decide +kernel
theorem dX9_sheet_29 : decode cX9_sheet 29 = .ok (.iload_n 3, 1) := by decide +kernel
theorem dX9_sheet_30 : decode cX9_sheet 30 = .ok (.istore 4, 2) := by decide +kernel
theorem dX9_sheet_32 : decode cX9_sheet 32 = .ok (.iload 4, 2) := by decide +kernel
theorem dX9_sheet_34 : decode cX9_sheet 34 = .ok (.bipush 24, 2) := by decide +kernel
theorem dX9_sheet_36 : decode cX9_sheet 36 = .ok (.if_icmp .le 6, 3) := by decide +kernel
theorem dX9_sheet_39 : decode cX9_sheet 39 = .ok (.ldc 96, 2) := by decide +kernel
theorem dX9_sheet_41 : decode cX9_sheet 41 = .ok (.ireturn, 1) := by decide +kernel
theorem dX9_sheet_42 : decode cX9_sheet 42 = .ok (.iload 4, 2) := by decide +kernel
theorem dX9_sheet_44 : decode cX9_sheet 44 = .ok (.ifCond .ge 7, 3) := by decide +kernel
theorem dX9_sheet_47 : decode cX9_sheet 47 = .ok (.ldc_w 316, 3) := by decide +kernel
theorem dX9_sheet_50 : decode cX9_sheet 50 = .ok (.ireturn, 1) := by decide +kernel
theorem dX9_sheet_51 : decode cX9_sheet 51 = .ok (.aload_n 0, 1) := by decide +kernel
theorem dX9_sheet_52 : decode cX9_sheet 52 = .ok (.getfield 39, 3) := by decide +kernel
theorem dX9_sheet_55 : decode cX9_sheet 55 = .ok (.iload_n 1, 1) := by decide +kernel
theorem dX9_sheet_56 : decode cX9_sheet 56 = .ok (.aaload, 1) := by decide +kernel
theorem dX9_sheet_57 : decode cX9_sheet 57 = .ok (.iload_n 2, 1) := by decide +kernel
theorem dX9_sheet_58 : decode cX9_sheet 58 = .ok (.iload 4, 2) := by decide +kernel
theorem dX9_sheet_60 : decode cX9_sheet 60 = .ok (.invokevirtual 317, 3) := by decide +kernel
theorem dX9_sheet_63 : decode cX9_sheet 63 = .ok (.iload 4, 2) := by decide +kernel
theorem dX9_sheet_65 : decode cX9_sheet 65 = .ok (.ireturn, 1) := by decide +kernel
theorem dX9_write_0 : decode cX9_write 0 = .ok (.iload_n 1, 1) := by decide +kernel
theorem dX9_write_1 : decode cX9_write 1 = .ok (.iconst 4, 1) := by decide +kernel
theorem dX9_write_2 : decode cX9_write 2 = .ok (.invokestatic 84, 3) := by decide +kernel
theorem dX9_write_5 : decode cX9_write 5 = .ok (.ifCond .ne 6, 3) := by decide +kernel
theorem dX9_write_8 : decode cX9_write 8 = .ok (.ldc 96, 2) := by decide +kernel
theorem dX9_write_10 : decode cX9_write 10 = .ok (.ireturn, 1) := by decide +kernel
theorem dX9_write_11 : decode cX9_write 11 = .ok (.aload_n 0, 1) := by decide +kernel
theorem dX9_write_12 : decode cX9_write 12 = .ok (.getfield 39, 3) := by decide +kernel
theorem dX9_write_15 : decode cX9_write 15 = .ok (.iload_n 1, 1) := by decide +kernel
theorem dX9_write_16 : decode cX9_write 16 = .ok (.aaload, 1) := by decide +kernel
theorem dX9_write_17 : decode cX9_write 17 = .ok (.astore 4, 2) := by decide +kernel
theorem dX9_write_19 : decode cX9_write 19 = .ok (.aload 4, 2) := by decide +kernel
theorem dX9_write_21 : decode cX9_write 21 = .ok (.invokevirtual 287, 3) := by decide +kernel
theorem dX9_write_24 : decode cX9_write 24 = .ok (.ifCond .eq 7, 3) := by decide +kernel
theorem dX9_write_27 : decode cX9_write 27 = .ok (.ldc_w 290, 3) := by decide +kernel
theorem dX9_write_30 : decode cX9_write 30 = .ok (.ireturn, 1) := by decide +kernel
theorem dX9_write_31 : decode cX9_write 31 = .ok (.iload_n 2, 1) := by decide +kernel
theorem dX9_write_32 : decode cX9_write 32 = .ok (.aload 4, 2) := by decide +kernel
theorem dX9_write_34 : decode cX9_write 34 = .ok (.getfield 321, 3) := by decide +kernel
theorem dX9_write_37 : decode cX9_write 37 = .ok (.invokestatic 84, 3) := by decide +kernel
theorem dX9_write_40 : decode cX9_write 40 = .ok (.ifCond .ne 7, 3) := by decide +kernel
theorem dX9_write_43 : decode cX9_write 43 = .ok (.ldc_w 324, 3) := by decide +kernel
theorem dX9_write_46 : decode cX9_write 46 = .ok (.ireturn, 1) := by decide +kernel
theorem dX9_write_47 : decode cX9_write 47 = .ok (.aload 4, 2) := by decide +kernel
theorem dX9_write_49 : decode cX9_write 49 = .ok (.getfield 294, 3) := by decide +kernel
theorem dX9_write_52 : decode cX9_write 52 = .ok (.iconst 1, 1) := by decide +kernel
theorem dX9_write_53 : decode cX9_write 53 = .ok (.if_icmp .ne 25, 3) := by decide +kernel
theorem dX9_write_56 : decode cX9_write 56 = .ok (.iload_n 3, 1) := by decide +kernel
theorem dX9_write_57 : decode cX9_write 57 = .ok (.ldc 157, 2) := by decide +kernel
theorem dX9_write_59 : decode cX9_write 59 = .ok (.if_icmp .eq 19, 3) := by decide +kernel
theorem dX9_write_62 : decode cX9_write 62 = .ok (.iload_n 3, 1) := by decide +kernel
theorem dX9_write_63 : decode cX9_write 63 = .ok (.ldc_w 325, 3) := by decide +kernel
theorem dX9_write_66 : decode cX9_write 66 = .ok (.ldc_w 326, 3) := by decide +kernel
theorem dX9_write_69 : decode cX9_write 69 = .ok (.invokestatic 92, 3) := by decide +kernel
theorem dX9_write_72 : decode cX9_write 72 = .ok (.ifCond .ne 6, 3) := by decide +kernel
theorem dX9_write_75 : decode cX9_write 75 = .ok (.ldc 96, 2) := by decide +kernel
theorem dX9_write_77 : decode cX9_write 77 = .ok (.ireturn, 1) := by decide +kernel
theorem dX9_write_78 : decode cX9_write 78 = .ok (.aload 4, 2) := by decide +kernel
theorem dX9_write_80 : decode cX9_write 80 = .ok (.getfield 327, 3) := by decide +kernel
theorem dX9_write_83 : decode cX9_write 83 = .ok (.iload_n 2, 1) := by decide +kernel
theorem dX9_write_84 : decode cX9_write 84 = .ok (.iload_n 3, 1) := by decide +kernel
theorem dX9_write_85 : decode cX9_write 85 = .ok (.iastore, 1) := by decide +kernel
theorem dX9_write_86 : decode cX9_write 86 = .ok (.iconst 1, 1) := by decide +kernel
theorem dX9_write_87 : decode cX9_write 87 = .ok (.ireturn, 1) := by decide +kernel
theorem dX9_log_0 : decode cX9_log 0 = .ok (.iload_n 1, 1) := by decide +kernel
theorem dX9_log_1 : decode cX9_log 1 = .ok (.iconst 4, 1) := by decide +kernel
theorem dX9_log_2 : decode cX9_log 2 = .ok (.invokestatic 84, 3) := by decide +kernel
theorem dX9_log_5 : decode cX9_log 5 = .ok (.ifCond .eq 10, 3) := by decide +kernel
theorem dX9_log_8 : decode cX9_log 8 = .ok (.iload_n 2, 1) := by decide +kernel
theorem dX9_log_9 : decode cX9_log 9 = .ok (.invokestatic 88, 3) := by decide +kernel
theorem dX9_log_12 : decode cX9_log 12 = .ok (.ifCond .ne 6, 3) := by decide +kernel
theorem dX9_log_15 : decode cX9_log 15 = .ok (.ldc 96, 2) := by decide +kernel
theorem dX9_log_17 : decode cX9_log 17 = .ok (.ireturn, 1) := by decide +kernel
theorem dX9_log_18 : decode cX9_log 18 = .ok (.aload_n 0, 1) := by decide +kernel
theorem dX9_log_19 : decode cX9_log 19 = .ok (.getfield 39, 3) := by decide +kernel
theorem dX9_log_22 : decode cX9_log 22 = .ok (.iload_n 1, 1) := by decide +kernel
theorem dX9_log_23 : decode cX9_log 23 = .ok (.aaload, 1) := by decide +kernel
theorem dX9_log_24 : decode cX9_log 24 = .ok (.astore_n 3, 1) := by decide +kernel
theorem dX9_log_25 : decode cX9_log 25 = .ok (.aload_n 3, 1) := by decide +kernel
theorem dX9_log_26 : decode cX9_log 26 = .ok (.invokevirtual 287, 3) := by decide +kernel
theorem dX9_log_29 : decode cX9_log 29 = .ok (.ifCond .eq 7, 3) := by decide +kernel
theorem dX9_log_32 : decode cX9_log 32 = .ok (.ldc_w 290, 3) := by decide +kernel
theorem dX9_log_35 : decode cX9_log 35 = .ok (.ireturn, 1) := by decide +kernel
theorem dX9_log_36 : decode cX9_log 36 = .ok (.iload_n 2, 1) := by decide +kernel
theorem dX9_log_37 : decode cX9_log 37 = .ok (.bipush 100, 2) := by decide +kernel
theorem dX9_log_39 : decode cX9_log 39 = .ok (.irem, 1) := by decide +kernel
theorem dX9_log_40 : decode cX9_log 40 = .ok (.aload_n 3, 1) := by decide +kernel
theorem dX9_log_41 : decode cX9_log 41 = .ok (.getfield 321, 3) := by decide +kernel
theorem dX9_log_44 : decode cX9_log 44 = .ok (.iadd, 1) := by decide +kernel
theorem dX9_log_45 : decode cX9_log 45 = .ok (.bipush 100, 2) := by decide +kernel
theorem dX9_log_47 : decode cX9_log 47 = .ok (.if_icmp .le 6, 3) := by decide +kernel
theorem dX9_log_50 : decode cX9_log 50 = .ok (.ldc 96, 2) := by decide +kernel
theorem dX9_log_52 : decode cX9_log 52 = .ok (.ireturn, 1) := by decide +kernel
theorem dX9_log_53 : decode cX9_log 53 = .ok (.aload_n 3, 1) := by decide +kernel
theorem dX9_log_54 : decode cX9_log 54 = .ok (.sipush 1000, 3) := by decide +kernel
theorem dX9_log_57 : decode cX9_log 57 = .ok (.invokevirtual 330, 3) := by decide +kernel
theorem dX9_log_60 : decode cX9_log 60 = .ok (.istore 4, 2) := by decide +kernel
theorem dX9_log_62 : decode cX9_log 62 = .ok (.aload_n 0, 1) := by decide +kernel
theorem dX9_log_63 : decode cX9_log 63 = .ok (.getfield 72, 3) := by decide +kernel
theorem dX9_log_66 : decode cX9_log 66 = .ok (.getfield 97, 3) := by decide +kernel
theorem dX9_log_69 : decode cX9_log 69 = .ok (.iload 4, 2) := by decide +kernel
theorem dX9_log_71 : decode cX9_log 71 = .ok (.iadd, 1) := by decide +kernel
theorem dX9_log_72 : decode cX9_log 72 = .ok (.bipush 24, 2) := by decide +kernel
theorem dX9_log_74 : decode cX9_log 74 = .ok (.if_icmp .le 6, 3) := by decide +kernel
theorem dX9_log_77 : decode cX9_log 77 = .ok (.ldc 100, 2) := by decide +kernel
theorem dX9_log_79 : decode cX9_log 79 = .ok (.ireturn, 1) := by decide +kernel
theorem dX9_log_80 : decode cX9_log 80 = .ok (.iconst 0, 1) := by decide +kernel
theorem dX9_log_81 : decode cX9_log 81 = .ok (.istore 5, 2) := by decide +kernel
theorem dX9_log_83 : decode cX9_log 83 = .ok (.iload 5, 2) := by decide +kernel
theorem dX9_log_85 : decode cX9_log 85 = .ok (.aload_n 3, 1) := by decide +kernel
theorem dX9_log_86 : decode cX9_log 86 = .ok (.getfield 321, 3) := by decide +kernel
theorem dX9_log_89 : decode cX9_log 89 = .ok (.if_icmp .ge 46, 3) := by decide +kernel
theorem dX9_log_92 : decode cX9_log 92 = .ok (.aload_n 3, 1) := by decide +kernel
theorem dX9_log_93 : decode cX9_log 93 = .ok (.getfield 327, 3) := by decide +kernel
theorem dX9_log_96 : decode cX9_log 96 = .ok (.iload 5, 2) := by decide +kernel
theorem dX9_log_98 : decode cX9_log 98 = .ok (.iaload, 1) := by decide +kernel
theorem dX9_log_99 : decode cX9_log 99 = .ok (.sipush 1000, 3) := by decide +kernel
theorem dX9_log_102 : decode cX9_log 102 = .ok (.invokestatic 84, 3) := by decide +kernel
theorem dX9_log_105 : decode cX9_log 105 = .ok (.ifCond .eq 24, 3) := by decide +kernel
theorem dX9_log_108 : decode cX9_log 108 = .ok (.aload_n 0, 1) := by decide +kernel
theorem dX9_log_109 : decode cX9_log 109 = .ok (.getfield 72, 3) := by decide +kernel
theorem dX9_log_112 : decode cX9_log 112 = .ok (.iconst 0, 1) := by decide +kernel
theorem dX9_log_113 : decode cX9_log 113 = .ok (.iload_n 2, 1) := by decide +kernel
theorem dX9_log_114 : decode cX9_log 114 = .ok (.iload 5, 2) := by decide +kernel
theorem dX9_log_116 : decode cX9_log 116 = .ok (.iadd, 1) := by decide +kernel
theorem dX9_log_117 : decode cX9_log 117 = .ok (.aload_n 3, 1) := by decide +kernel
theorem dX9_log_118 : decode cX9_log 118 = .ok (.getfield 327, 3) := by decide +kernel
theorem dX9_log_121 : decode cX9_log 121 = .ok (.iload 5, 2) := by decide +kernel
theorem dX9_log_123 : decode cX9_log 123 = .ok (.iaload, 1) := by decide +kernel
theorem dX9_log_124 : decode cX9_log 124 = .ok (.iconst 0, 1) := by decide +kernel
theorem dX9_log_125 : decode cX9_log 125 = .ok (.invokevirtual 101, 3) := by decide +kernel
theorem dX9_log_128 : decode cX9_log 128 = .ok (.pop, 1) := by decide +kernel
theorem dX9_log_129 : decode cX9_log 129 = .ok (.iinc 5 1, 3) := by decide +kernel
theorem dX9_log_132 : decode cX9_log 132 = .ok (.goto (-49), 3) := by decide +kernel
theorem dX9_log_135 : decode cX9_log 135 = .ok (.iload 4, 2) := by decide +kernel
theorem dX9_log_137 : decode cX9_log 137 = .ok (.ireturn, 1) := by decide +kernel
theorem dX9_copy_0 : decode cX9_copy 0 = .ok (.iload_n 1, 1) := by decide +kernel
theorem dX9_copy_1 : decode cX9_copy 1 = .ok (.iconst 4, 1) := by decide +kernel
theorem dX9_copy_2 : decode cX9_copy 2 = .ok (.invokestatic 84, 3) := by decide +kernel
theorem dX9_copy_5 : decode cX9_copy 5 = .ok (.ifCond .eq 11, 3) := by decide +kernel
theorem dX9_copy_8 : decode cX9_copy 8 = .ok (.iload_n 3, 1) := by decide +kernel
theorem dX9_copy_9 : decode cX9_copy 9 = .ok (.iconst 4, 1) := by decide +kernel
theorem dX9_copy_10 : decode cX9_copy 10 = .ok (.invokestatic 84, 3) := by decide +kernel
theorem dX9_copy_13 : decode cX9_copy 13 = .ok (.ifCond .ne 6, 3) := by decide +kernel
theorem dX9_copy_16 : decode cX9_copy 16 = .ok (.ldc 96, 2) := by decide +kernel
theorem dX9_copy_18 : decode cX9_copy 18 = .ok (.ireturn, 1) := by decide +kernel
theorem dX9_copy_19 : decode cX9_copy 19 = .ok (.aload_n 0, 1) := by decide +kernel
theorem dX9_copy_20 : decode cX9_copy 20 = .ok (.getfield 39, 3) := by decide +kernel
theorem dX9_copy_23 : decode cX9_copy 23 = .ok (.iload_n 1, 1) := by decide +kernel
theorem dX9_copy_24 : decode cX9_copy 24 = .ok (.aaload, 1) := by decide +kernel
theorem dX9_copy_25 : decode cX9_copy 25 = .ok (.astore 6, 2) := by decide +kernel
theorem dX9_copy_27 : decode cX9_copy 27 = .ok (.aload_n 0, 1) := by decide +kernel
theorem dX9_copy_28 : decode cX9_copy 28 = .ok (.getfield 39, 3) := by decide +kernel
theorem dX9_copy_31 : decode cX9_copy 31 = .ok (.iload_n 3, 1) := by decide +kernel
theorem dX9_copy_32 : decode cX9_copy 32 = .ok (.aaload, 1) := by decide +kernel
theorem dX9_copy_33 : decode cX9_copy 33 = .ok (.astore 7, 2) := by decide +kernel
theorem dX9_copy_35 : decode cX9_copy 35 = .ok (.aload 6, 2) := by decide +kernel
theorem dX9_copy_37 : decode cX9_copy 37 = .ok (.invokevirtual 287, 3) := by decide +kernel
theorem dX9_copy_40 : decode cX9_copy 40 = .ok (.ifCond .ne 11, 3) := by decide +kernel
theorem dX9_copy_43 : decode cX9_copy 43 = .ok (.aload 7, 2) := by decide +kernel
theorem dX9_copy_45 : decode cX9_copy 45 = .ok (.invokevirtual 287, 3) := by decide +kernel
theorem dX9_copy_48 : decode cX9_copy 48 = .ok (.ifCond .eq 7, 3) := by decide +kernel
theorem dX9_copy_51 : decode cX9_copy 51 = .ok (.ldc_w 290, 3) := by decide +kernel
theorem dX9_copy_54 : decode cX9_copy 54 = .ok (.ireturn, 1) := by decide +kernel
theorem dX9_copy_55 : decode cX9_copy 55 = .ok (.aload 6, 2) := by decide +kernel
theorem dX9_copy_57 : decode cX9_copy 57 = .ok (.getfield 294, 3) := by decide +kernel
theorem dX9_copy_60 : decode cX9_copy 60 = .ok (.aload 7, 2) := by decide +kernel
theorem dX9_copy_62 : decode cX9_copy 62 = .ok (.getfield 294, 3) := by decide +kernel
theorem dX9_copy_65 : decode cX9_copy 65 = .ok (.if_icmp .eq 6, 3) := by decide +kernel
theorem dX9_copy_68 : decode cX9_copy 68 = .ok (.ldc 156, 2) := by decide +kernel
theorem dX9_copy_70 : decode cX9_copy 70 = .ok (.ireturn, 1) := by decide +kernel
theorem dX9_copy_71 : decode cX9_copy 71 = .ok (.aload 6, 2) := by decide +kernel
theorem dX9_copy_73 : decode cX9_copy 73 = .ok (.iload_n 2, 1) := by decide +kernel
theorem dX9_copy_74 : decode cX9_copy 74 = .ok (.iload 5, 2) := by decide +kernel
theorem dX9_copy_76 : decode cX9_copy 76 = .ok (.invokevirtual 333, 3) := by decide +kernel
theorem dX9_copy_79 : decode cX9_copy 79 = .ok (.ifCond .eq 15, 3) := by decide +kernel
theorem dX9_copy_82 : decode cX9_copy 82 = .ok (.aload 7, 2) := by decide +kernel
theorem dX9_copy_84 : decode cX9_copy 84 = .ok (.iload 4, 2) := by decide +kernel
theorem dX9_copy_86 : decode cX9_copy 86 = .ok (.iload 5, 2) := by decide +kernel
theorem dX9_copy_88 : decode cX9_copy 88 = .ok (.invokevirtual 333, 3) := by decide +kernel
theorem dX9_copy_91 : decode cX9_copy 91 = .ok (.ifCond .ne 7, 3) := by decide +kernel
theorem dX9_copy_94 : decode cX9_copy 94 = .ok (.ldc_w 324, 3) := by decide +kernel
theorem dX9_copy_97 : decode cX9_copy 97 = .ok (.ireturn, 1) := by decide +kernel
theorem dX9_copy_98 : decode cX9_copy 98 = .ok (.aload 6, 2) := by decide +kernel
theorem dX9_copy_100 : decode cX9_copy 100 = .ok (.getfield 327, 3) := by decide +kernel
theorem dX9_copy_103 : decode cX9_copy 103 = .ok (.iload_n 2, 1) := by decide +kernel
theorem dX9_copy_104 : decode cX9_copy 104 = .ok (.aload 7, 2) := by decide +kernel
theorem dX9_copy_106 : decode cX9_copy 106 = .ok (.getfield 327, 3) := by decide +kernel
theorem dX9_copy_109 : decode cX9_copy 109 = .ok (.iload 4, 2) := by decide +kernel
theorem dX9_copy_111 : decode cX9_copy 111 = .ok (.iload 5, 2) := by decide +kernel
theorem dX9_copy_113 : decode cX9_copy 113 = .ok (.invokestatic 336, 3) := by decide +kernel
theorem dX9_copy_116 : decode cX9_copy 116 = .ok (.iload 5, 2) := by decide +kernel
theorem dX9_copy_118 : decode cX9_copy 118 = .ok (.ireturn, 1) := by decide +kernel
theorem dX9_lay_0 : decode cX9_lay 0 = .ok (.iload_n 1, 1) := by decide +kernel
theorem dX9_lay_1 : decode cX9_lay 1 = .ok (.iconst 5, 1) := by decide +kernel
theorem dX9_lay_2 : decode cX9_lay 2 = .ok (.invokestatic 84, 3) := by decide +kernel
theorem dX9_lay_5 : decode cX9_lay 5 = .ok (.ifCond .eq 11, 3) := by decide +kernel
theorem dX9_lay_8 : decode cX9_lay 8 = .ok (.iload_n 2, 1) := by decide +kernel
theorem dX9_lay_9 : decode cX9_lay 9 = .ok (.iconst 4, 1) := by decide +kernel
theorem dX9_lay_10 : decode cX9_lay 10 = .ok (.invokestatic 84, 3) := by decide +kernel
theorem dX9_lay_13 : decode cX9_lay 13 = .ok (.ifCond .ne 6, 3) := by decide +kernel
theorem dX9_lay_16 : decode cX9_lay 16 = .ok (.ldc 96, 2) := by decide +kernel
theorem dX9_lay_18 : decode cX9_lay 18 = .ok (.ireturn, 1) := by decide +kernel
theorem dX9_lay_19 : decode cX9_lay 19 = .ok (.iload_n 2, 1) := by decide +kernel
theorem dX9_lay_20 : decode cX9_lay 20 = .ok (.iconst 1, 1) := by decide +kernel
theorem dX9_lay_21 : decode cX9_lay 21 = .ok (.if_icmp .ne 17, 3) := by decide +kernel
theorem dX9_lay_24 : decode cX9_lay 24 = .ok (.iload_n 3, 1) := by decide +kernel
theorem dX9_lay_25 : decode cX9_lay 25 = .ok (.aload_n 0, 1) := by decide +kernel
theorem dX9_lay_26 : decode cX9_lay 26 = .ok (.getfield 72, 3) := by decide +kernel
theorem dX9_lay_29 : decode cX9_lay 29 = .ok (.getfield 97, 3) := by decide +kernel
theorem dX9_lay_32 : decode cX9_lay 32 = .ok (.invokestatic 84, 3) := by decide +kernel
theorem dX9_lay_35 : decode cX9_lay 35 = .ok (.ifCond .eq 16, 3) := by decide +kernel
theorem dX9_lay_38 : decode cX9_lay 38 = .ok (.iload_n 2, 1) := by decide +kernel
theorem dX9_lay_39 : decode cX9_lay 39 = .ok (.iconst 2, 1) := by decide +kernel
theorem dX9_lay_40 : decode cX9_lay 40 = .ok (.if_icmp .ne 14, 3) := by decide +kernel
theorem dX9_lay_43 : decode cX9_lay 43 = .ok (.iload_n 3, 1) := by decide +kernel
theorem dX9_lay_44 : decode cX9_lay 44 = .ok (.iconst 4, 1) := by decide +kernel
theorem dX9_lay_45 : decode cX9_lay 45 = .ok (.invokestatic 84, 3) := by decide +kernel
theorem dX9_lay_48 : decode cX9_lay 48 = .ok (.ifCond .ne 6, 3) := by decide +kernel
theorem dX9_lay_51 : decode cX9_lay 51 = .ok (.ldc 96, 2) := by decide +kernel
theorem dX9_lay_53 : decode cX9_lay 53 = .ok (.ireturn, 1) := by decide +kernel
theorem dX9_lay_54 : decode cX9_lay 54 = .ok (.iload_n 2, 1) := by decide +kernel
theorem dX9_lay_55 : decode cX9_lay 55 = .ok (.iconst 2, 1) := by decide +kernel
theorem dX9_lay_56 : decode cX9_lay 56 = .ok (.if_icmp .ne 19, 3) := by decide +kernel
theorem dX9_lay_59 : decode cX9_lay 59 = .ok (.aload_n 0, 1) := by decide +kernel
theorem dX9_lay_60 : decode cX9_lay 60 = .ok (.getfield 39, 3) := by decide +kernel
theorem dX9_lay_63 : decode cX9_lay 63 = .ok (.iload_n 3, 1) := by decide +kernel
theorem dX9_lay_64 : decode cX9_lay 64 = .ok (.aaload, 1) := by decide +kernel
theorem dX9_lay_65 : decode cX9_lay 65 = .ok (.invokevirtual 287, 3) := by decide +kernel
theorem dX9_lay_68 : decode cX9_lay 68 = .ok (.ifCond .eq 7, 3) := by decide +kernel
theorem dX9_lay_71 : decode cX9_lay 71 = .ok (.ldc_w 290, 3) := by decide +kernel
theorem dX9_lay_74 : decode cX9_lay 74 = .ok (.ireturn, 1) := by decide +kernel
theorem dX9_lay_75 : decode cX9_lay 75 = .ok (.aload_n 0, 1) := by decide +kernel
theorem dX9_lay_76 : decode cX9_lay 76 = .ok (.getfield 45, 3) := by decide +kernel
theorem dX9_lay_79 : decode cX9_lay 79 = .ok (.iload_n 1, 1) := by decide +kernel
theorem dX9_lay_80 : decode cX9_lay 80 = .ok (.aaload, 1) := by decide +kernel
theorem dX9_lay_81 : decode cX9_lay 81 = .ok (.astore 4, 2) := by decide +kernel
theorem dX9_lay_83 : decode cX9_lay 83 = .ok (.aload 4, 2) := by decide +kernel
theorem dX9_lay_85 : decode cX9_lay 85 = .ok (.getfield 342, 3) := by decide +kernel
theorem dX9_lay_88 : decode cX9_lay 88 = .ok (.istore 5, 2) := by decide +kernel
theorem dX9_lay_90 : decode cX9_lay 90 = .ok (.aload 4, 2) := by decide +kernel
theorem dX9_lay_92 : decode cX9_lay 92 = .ok (.iload_n 2, 1) := by decide +kernel
theorem dX9_lay_93 : decode cX9_lay 93 = .ok (.putfield 342, 3) := by decide +kernel
theorem dX9_lay_96 : decode cX9_lay 96 = .ok (.iload_n 2, 1) := by decide +kernel
theorem dX9_lay_97 : decode cX9_lay 97 = .ok (.iconst 1, 1) := by decide +kernel
theorem dX9_lay_98 : decode cX9_lay 98 = .ok (.if_icmp .ne 23, 3) := by decide +kernel
theorem dX9_lay_101 : decode cX9_lay 101 = .ok (.aload 4, 2) := by decide +kernel
theorem dX9_lay_103 : decode cX9_lay 103 = .ok (.aload_n 0, 1) := by decide +kernel
theorem dX9_lay_104 : decode cX9_lay 104 = .ok (.getfield 72, 3) := by decide +kernel
theorem dX9_lay_107 : decode cX9_lay 107 = .ok (.getfield 105, 3) := by decide +kernel
theorem dX9_lay_110 : decode cX9_lay 110 = .ok (.iload_n 3, 1) := by decide +kernel
theorem dX9_lay_111 : decode cX9_lay 111 = .ok (.aaload, 1) := by decide +kernel
theorem dX9_lay_112 : decode cX9_lay 112 = .ok (.getfield 109, 3) := by decide +kernel
theorem dX9_lay_115 : decode cX9_lay 115 = .ok (.putfield 345, 3) := by decide +kernel
theorem dX9_lay_118 : decode cX9_lay 118 = .ok (.goto 31, 3) := by decide +kernel
theorem dX9_lay_121 : decode cX9_lay 121 = .ok (.iload_n 2, 1) := by decide +kernel
theorem dX9_lay_122 : decode cX9_lay 122 = .ok (.iconst 2, 1) := by decide +kernel
theorem dX9_lay_123 : decode cX9_lay 123 = .ok (.if_icmp .ne 20, 3) := by decide +kernel
theorem dX9_lay_126 : decode cX9_lay 126 = .ok (.aload 4, 2) := by decide +kernel
theorem dX9_lay_128 : decode cX9_lay 128 = .ok (.getfield 346, 3) := by decide +kernel
theorem dX9_lay_131 : decode cX9_lay 131 = .ok (.aload_n 0, 1) := by decide +kernel
theorem dX9_lay_132 : decode cX9_lay 132 = .ok (.getfield 39, 3) := by decide +kernel
theorem dX9_lay_135 : decode cX9_lay 135 = .ok (.iload_n 3, 1) := by decide +kernel
theorem dX9_lay_136 : decode cX9_lay 136 = .ok (.aaload, 1) := by decide +kernel
theorem dX9_lay_137 : decode cX9_lay 137 = .ok (.invokevirtual 350, 3) := by decide +kernel
theorem dX9_lay_140 : decode cX9_lay 140 = .ok (.goto 9, 3) := by decide +kernel
theorem dX9_lay_143 : decode cX9_lay 143 = .ok (.aload 4, 2) := by decide +kernel
theorem dX9_lay_145 : decode cX9_lay 145 = .ok (.iload_n 3, 1) := by decide +kernel
theorem dX9_lay_146 : decode cX9_lay 146 = .ok (.putfield 353, 3) := by decide +kernel
theorem dX9_lay_149 : decode cX9_lay 149 = .ok (.iload 5, 2) := by decide +kernel
theorem dX9_lay_151 : decode cX9_lay 151 = .ok (.ireturn, 1) := by decide +kernel
theorem dX9_ask_0 : decode cX9_ask 0 = .ok (.iload_n 2, 1) := by decide +kernel
theorem dX9_ask_1 : decode cX9_ask 1 = .ok (.getstatic 81, 3) := by decide +kernel
theorem dX9_ask_4 : decode cX9_ask 4 = .ok (.arraylength, 1) := by decide +kernel
theorem dX9_ask_5 : decode cX9_ask 5 = .ok (.invokestatic 84, 3) := by decide +kernel
theorem dX9_ask_8 : decode cX9_ask 8 = .ok (.ifCond .eq 12, 3) := by decide +kernel
theorem dX9_ask_11 : decode cX9_ask 11 = .ok (.aload_n 0, 1) := by decide +kernel
theorem dX9_ask_12 : decode cX9_ask 12 = .ok (.iload_n 1, 1) := by decide +kernel
theorem dX9_ask_13 : decode cX9_ask 13 = .ok (.iconst 1, 1) := by decide +kernel
theorem dX9_ask_14 : decode cX9_ask 14 = .ok (.invokevirtual 356, 3) := by decide +kernel
theorem dX9_ask_17 : decode cX9_ask 17 = .ok (.goto 5, 3) := by decide +kernel
theorem dX9_ask_20 : decode cX9_ask 20 = .ok (.ldc 96, 2) := by decide +kernel
theorem dX9_ask_22 : decode cX9_ask 22 = .ok (.istore_n 3, 1) := by decide +kernel
theorem dX9_ask_23 : decode cX9_ask 23 = .ok (.iload_n 3, 1) := by decide +kernel
theorem dX9_ask_24 : decode cX9_ask 24 = .ok (.ifCond .eq 5, 3) := by decide +kernel
theorem dX9_ask_27 : decode cX9_ask 27 = .ok (.iload_n 3, 1) := by decide +kernel
theorem dX9_ask_28 : decode cX9_ask 28 = .ok (.ireturn, 1) := by decide +kernel
theorem dX9_ask_29 : decode cX9_ask 29 = .ok (.aload_n 0, 1) := by decide +kernel
theorem dX9_ask_30 : decode cX9_ask 30 = .ok (.getfield 45, 3) := by decide +kernel
theorem dX9_ask_33 : decode cX9_ask 33 = .ok (.iload_n 1, 1) := by decide +kernel
theorem dX9_ask_34 : decode cX9_ask 34 = .ok (.aaload, 1) := by decide +kernel
theorem dX9_ask_35 : decode cX9_ask 35 = .ok (.getfield 345, 3) := by decide +kernel
theorem dX9_ask_38 : decode cX9_ask 38 = .ok (.istore 4, 2) := by decide +kernel
theorem dX9_ask_40 : decode cX9_ask 40 = .ok (.iload 4, 2) := by decide +kernel
theorem dX9_ask_42 : decode cX9_ask 42 = .ok (.iload_n 2, 1) := by decide +kernel
theorem dX9_ask_43 : decode cX9_ask 43 = .ok (.invokestatic 153, 3) := by decide +kernel
theorem dX9_ask_46 : decode cX9_ask 46 = .ok (.ifCond .eq 11, 3) := by decide +kernel
theorem dX9_ask_49 : decode cX9_ask 49 = .ok (.iload 4, 2) := by decide +kernel
theorem dX9_ask_51 : decode cX9_ask 51 = .ok (.invokestatic 137, 3) := by decide +kernel
theorem dX9_ask_54 : decode cX9_ask 54 = .ok (.goto 5, 3) := by decide +kernel
theorem dX9_ask_57 : decode cX9_ask 57 = .ok (.ldc 156, 2) := by decide +kernel
theorem dX9_ask_59 : decode cX9_ask 59 = .ok (.ireturn, 1) := by decide +kernel
theorem dX9_item_0 : decode cX9_item 0 = .ok (.aload_n 0, 1) := by decide +kernel
theorem dX9_item_1 : decode cX9_item 1 = .ok (.iload_n 1, 1) := by decide +kernel
theorem dX9_item_2 : decode cX9_item 2 = .ok (.iconst 2, 1) := by decide +kernel
theorem dX9_item_3 : decode cX9_item 3 = .ok (.invokevirtual 356, 3) := by decide +kernel
theorem dX9_item_6 : decode cX9_item 6 = .ok (.istore_n 3, 1) := by decide +kernel
theorem dX9_item_7 : decode cX9_item 7 = .ok (.iload_n 3, 1) := by decide +kernel
theorem dX9_item_8 : decode cX9_item 8 = .ok (.ifCond .eq 5, 3) := by decide +kernel
theorem dX9_item_11 : decode cX9_item 11 = .ok (.iload_n 3, 1) := by decide +kernel
theorem dX9_item_12 : decode cX9_item 12 = .ok (.ireturn, 1) := by decide +kernel
theorem dX9_item_13 : decode cX9_item 13 = .ok (.aload_n 0, 1) := by decide +kernel
theorem dX9_item_14 : decode cX9_item 14 = .ok (.getfield 45, 3) := by decide +kernel
theorem dX9_item_17 : decode cX9_item 17 = .ok (.iload_n 1, 1) := by decide +kernel
theorem dX9_item_18 : decode cX9_item 18 = .ok (.aaload, 1) := by decide +kernel
theorem dX9_item_19 : decode cX9_item 19 = .ok (.getfield 346, 3) := by decide +kernel
theorem dX9_item_22 : decode cX9_item 22 = .ok (.astore 4, 2) := by decide +kernel
theorem dX9_item_24 : decode cX9_item 24 = .ok (.iload_n 2, 1) := by decide +kernel
theorem dX9_item_25 : decode cX9_item 25 = .ok (.aload 4, 2) := by decide +kernel
theorem dX9_item_27 : decode cX9_item 27 = .ok (.getfield 321, 3) := by decide +kernel
theorem dX9_item_30 : decode cX9_item 30 = .ok (.invokestatic 84, 3) := by decide +kernel
theorem dX9_item_33 : decode cX9_item 33 = .ok (.ifCond .ne 7, 3) := by decide +kernel
theorem dX9_item_36 : decode cX9_item 36 = .ok (.ldc_w 324, 3) := by decide +kernel
theorem dX9_item_39 : decode cX9_item 39 = .ok (.ireturn, 1) := by decide +kernel
theorem dX9_item_40 : decode cX9_item 40 = .ok (.aload 4, 2) := by decide +kernel
theorem dX9_item_42 : decode cX9_item 42 = .ok (.aload 4, 2) := by decide +kernel
theorem dX9_item_44 : decode cX9_item 44 = .ok (.getfield 327, 3) := by decide +kernel
theorem dX9_item_47 : decode cX9_item 47 = .ok (.iload_n 2, 1) := by decide +kernel
theorem dX9_item_48 : decode cX9_item 48 = .ok (.iaload, 1) := by decide +kernel
theorem dX9_item_49 : decode cX9_item 49 = .ok (.invokevirtual 359, 3) := by decide +kernel
theorem dX9_item_52 : decode cX9_item 52 = .ok (.ifCond .eq 8, 3) := by decide +kernel
theorem dX9_item_55 : decode cX9_item 55 = .ok (.ldc 156, 2) := by decide +kernel
theorem dX9_item_57 : decode cX9_item 57 = .ok (.goto 10, 3) := by decide +kernel
theorem dX9_item_60 : decode cX9_item 60 = .ok (.aload 4, 2) := by decide +kernel
theorem dX9_item_62 : decode cX9_item 62 = .ok (.getfield 327, 3) := by decide +kernel
theorem dX9_item_65 : decode cX9_item 65 = .ok (.iload_n 2, 1) := by decide +kernel
theorem dX9_item_66 : decode cX9_item 66 = .ok (.iaload, 1) := by decide +kernel
theorem dX9_item_67 : decode cX9_item 67 = .ok (.ireturn, 1) := by decide +kernel
theorem dX9_rest_0 : decode cX9_rest 0 = .ok (.aload_n 0, 1) := by decide +kernel
theorem dX9_rest_1 : decode cX9_rest 1 = .ok (.iload_n 1, 1) := by decide +kernel
theorem dX9_rest_2 : decode cX9_rest 2 = .ok (.iconst 3, 1) := by decide +kernel
theorem dX9_rest_3 : decode cX9_rest 3 = .ok (.invokevirtual 356, 3) := by decide +kernel
theorem dX9_rest_6 : decode cX9_rest 6 = .ok (.istore_n 3, 1) := by decide +kernel
theorem dX9_rest_7 : decode cX9_rest 7 = .ok (.iload_n 3, 1) := by decide +kernel
theorem dX9_rest_8 : decode cX9_rest 8 = .ok (.ifCond .eq 5, 3) := by decide +kernel
theorem dX9_rest_11 : decode cX9_rest 11 = .ok (.iload_n 3, 1) := by decide +kernel
theorem dX9_rest_12 : decode cX9_rest 12 = .ok (.ireturn, 1) := by decide +kernel
theorem dX9_rest_13 : decode cX9_rest 13 = .ok (.iload_n 2, 1) := by decide +kernel
theorem dX9_rest_14 : decode cX9_rest 14 = .ok (.ifCond .ne 8, 3) := by decide +kernel
theorem dX9_rest_17 : decode cX9_rest 17 = .ok (.ldc 224, 2) := by decide +kernel
theorem dX9_rest_19 : decode cX9_rest 19 = .ok (.goto 14, 3) := by decide +kernel
theorem dX9_rest_22 : decode cX9_rest 22 = .ok (.aload_n 0, 1) := by decide +kernel
theorem dX9_rest_23 : decode cX9_rest 23 = .ok (.getfield 45, 3) := by decide +kernel
theorem dX9_rest_26 : decode cX9_rest 26 = .ok (.iload_n 1, 1) := by decide +kernel
theorem dX9_rest_27 : decode cX9_rest 27 = .ok (.aaload, 1) := by decide +kernel
theorem dX9_rest_28 : decode cX9_rest 28 = .ok (.getfield 353, 3) := by decide +kernel
theorem dX9_rest_31 : decode cX9_rest 31 = .ok (.iload_n 2, 1) := by decide +kernel
theorem dX9_rest_32 : decode cX9_rest 32 = .ok (.irem, 1) := by decide +kernel
theorem dX9_rest_33 : decode cX9_rest 33 = .ok (.ireturn, 1) := by decide +kernel
theorem dX9_lackOf_0 : decode cX9_lackOf 0 = .ok (.iload_n 1, 1) := by decide +kernel
theorem dX9_lackOf_1 : decode cX9_lackOf 1 = .ok (.iconst 5, 1) := by decide +kernel
theorem dX9_lackOf_2 : decode cX9_lackOf 2 = .ok (.invokestatic 84, 3) := by decide +kernel
theorem dX9_lackOf_5 : decode cX9_lackOf 5 = .ok (.ifCond .ne 6, 3) := by decide +kernel
theorem dX9_lackOf_8 : decode cX9_lackOf 8 = .ok (.ldc 96, 2) := by decide +kernel
theorem dX9_lackOf_10 : decode cX9_lackOf 10 = .ok (.ireturn, 1) := by decide +kernel
theorem dX9_lackOf_11 : decode cX9_lackOf 11 = .ok (.aload_n 0, 1) := by decide +kernel
theorem dX9_lackOf_12 : decode cX9_lackOf 12 = .ok (.getfield 45, 3) := by decide +kernel
theorem dX9_lackOf_15 : decode cX9_lackOf 15 = .ok (.iload_n 1, 1) := by decide +kernel
theorem dX9_lackOf_16 : decode cX9_lackOf 16 = .ok (.aaload, 1) := by decide +kernel
theorem dX9_lackOf_17 : decode cX9_lackOf 17 = .ok (.getfield 342, 3) := by decide +kernel
theorem dX9_lackOf_20 : decode cX9_lackOf 20 = .ok (.ifCond .ne 7, 3) := by decide +kernel
theorem dX9_lackOf_23 : decode cX9_lackOf 23 = .ok (.ldc_w 290, 3) := by decide +kernel
theorem dX9_lackOf_26 : decode cX9_lackOf 26 = .ok (.ireturn, 1) := by decide +kernel
theorem dX9_lackOf_27 : decode cX9_lackOf 27 = .ok (.aload_n 0, 1) := by decide +kernel
theorem dX9_lackOf_28 : decode cX9_lackOf 28 = .ok (.getfield 45, 3) := by decide +kernel
theorem dX9_lackOf_31 : decode cX9_lackOf 31 = .ok (.iload_n 1, 1) := by decide +kernel
theorem dX9_lackOf_32 : decode cX9_lackOf 32 = .ok (.aaload, 1) := by decide +kernel
theorem dX9_lackOf_33 : decode cX9_lackOf 33 = .ok (.getfield 342, 3) := by decide +kernel
theorem dX9_lackOf_36 : decode cX9_lackOf 36 = .ok (.iload_n 2, 1) := by decide +kernel
theorem dX9_lackOf_37 : decode cX9_lackOf 37 = .ok (.if_icmp .ne 7, 3) := by decide +kernel
theorem dX9_lackOf_40 : decode cX9_lackOf 40 = .ok (.iconst 0, 1) := by decide +kernel
theorem dX9_lackOf_41 : decode cX9_lackOf 41 = .ok (.goto 5, 3) := by decide +kernel
theorem dX9_lackOf_44 : decode cX9_lackOf 44 = .ok (.ldc 156, 2) := by decide +kernel
theorem dX9_lackOf_46 : decode cX9_lackOf 46 = .ok (.ireturn, 1) := by decide +kernel
theorem dX9_tell_0 : decode cX9_tell 0 = .ok (.aload_n 0, 1) := by decide +kernel
theorem dX9_tell_1 : decode cX9_tell 1 = .ok (.getfield 56, 3) := by decide +kernel
theorem dX9_tell_4 : decode cX9_tell 4 = .ok (.bipush 60, 2) := by decide +kernel
theorem dX9_tell_6 : decode cX9_tell 6 = .ok (.if_icmp .lt 6, 3) := by decide +kernel
theorem dX9_tell_9 : decode cX9_tell 9 = .ok (.ldc 100, 2) := by decide +kernel
theorem dX9_tell_11 : decode cX9_tell 11 = .ok (.ireturn, 1) := by decide +kernel
theorem dX9_tell_12 : decode cX9_tell 12 = .ok (.aload_n 0, 1) := by decide +kernel
theorem dX9_tell_13 : decode cX9_tell 13 = .ok (.getfield 53, 3) := by decide +kernel
theorem dX9_tell_16 : decode cX9_tell 16 = .ok (.aload_n 0, 1) := by decide +kernel
theorem dX9_tell_17 : decode cX9_tell 17 = .ok (.getfield 56, 3) := by decide +kernel
theorem dX9_tell_20 : decode cX9_tell 20 = .ok (.iload_n 1, 1) := by decide +kernel
theorem dX9_tell_21 : decode cX9_tell 21 = .ok (.iastore, 1) := by decide +kernel
theorem dX9_tell_22 : decode cX9_tell 22 = .ok (.aload_n 0, 1) := by decide +kernel
theorem dX9_tell_23 : decode cX9_tell 23 = .ok (.dup, 1) := by decide +kernel
theorem dX9_tell_24 : decode cX9_tell 24 = .ok (.getfield 56, 3) := by decide +kernel
theorem dX9_tell_27 : decode cX9_tell 27 = .ok (.iconst 1, 1) := by decide +kernel
theorem dX9_tell_28 : decode cX9_tell 28 = .ok (.iadd, 1) := by decide +kernel
theorem dX9_tell_29 : decode cX9_tell 29 = .ok (.putfield 56, 3) := by decide +kernel
theorem dX9_tell_32 : decode cX9_tell 32 = .ok (.aload_n 0, 1) := by decide +kernel
theorem dX9_tell_33 : decode cX9_tell 33 = .ok (.getfield 56, 3) := by decide +kernel
theorem dX9_tell_36 : decode cX9_tell 36 = .ok (.ireturn, 1) := by decide +kernel
theorem dX9_check_0 : decode cX9_check 0 = .ok (.aload_n 0, 1) := by decide +kernel
theorem dX9_check_1 : decode cX9_check 1 = .ok (.getfield 56, 3) := by decide +kernel
theorem dX9_check_4 : decode cX9_check 4 = .ok (.istore_n 3, 1) := by decide +kernel
theorem dX9_check_5 : decode cX9_check 5 = .ok (.aload_n 0, 1) := by decide +kernel
theorem dX9_check_6 : decode cX9_check 6 = .ok (.iconst 0, 1) := by decide +kernel
theorem dX9_check_7 : decode cX9_check 7 = .ok (.putfield 56, 3) := by decide +kernel
theorem dX9_check_10 : decode cX9_check 10 = .ok (.iload_n 1, 1) := by decide +kernel
theorem dX9_check_11 : decode cX9_check 11 = .ok (.iconst 1, 1) := by decide +kernel
theorem dX9_check_12 : decode cX9_check 12 = .ok (.bipush 20, 2) := by decide +kernel
theorem dX9_check_14 : decode cX9_check 14 = .ok (.invokestatic 92, 3) := by decide +kernel
theorem dX9_check_17 : decode cX9_check 17 = .ok (.ifCond .eq 14, 3) := by decide +kernel
theorem dX9_check_20 : decode cX9_check 20 = .ok (.iload_n 2, 1) := by decide +kernel
theorem dX9_check_21 : decode cX9_check 21 = .ok (.iconst 0, 1) := by decide +kernel
theorem dX9_check_22 : decode cX9_check 22 = .ok (.sipush 200, 3) := by decide +kernel
theorem dX9_check_25 : decode cX9_check 25 = .ok (.invokestatic 92, 3) := by decide +kernel
theorem dX9_check_28 : decode cX9_check 28 = .ok (.ifCond .ne 6, 3) := by decide +kernel
theorem dX9_check_31 : decode cX9_check 31 = .ok (.ldc 96, 2) := by decide +kernel
theorem dX9_check_33 : decode cX9_check 33 = .ok (.ireturn, 1) := by decide +kernel
theorem dX9_check_34 : decode cX9_check 34 = .ok (.aload_n 0, 1) := by decide +kernel
theorem dX9_check_35 : decode cX9_check 35 = .ok (.getfield 60, 3) := by decide +kernel
theorem dX9_check_38 : decode cX9_check 38 = .ok (.ifCond .ne 6, 3) := by decide +kernel
theorem dX9_check_41 : decode cX9_check 41 = .ok (.ldc 224, 2) := by decide +kernel
theorem dX9_check_43 : decode cX9_check 43 = .ok (.ireturn, 1) := by decide +kernel
theorem dX9_check_44 : decode cX9_check 44 = .ok (.iload_n 1, 1) := by decide +kernel
theorem dX9_check_45 : decode cX9_check 45 = .ok (.aload_n 0, 1) := by decide +kernel
theorem dX9_check_46 : decode cX9_check 46 = .ok (.getfield 76, 3) := by decide +kernel
theorem dX9_check_49 : decode cX9_check 49 = .ok (.invokevirtual 362, 3) := by decide +kernel
theorem dX9_check_52 : decode cX9_check 52 = .ok (.imul, 1) := by decide +kernel
theorem dX9_check_53 : decode cX9_check 53 = .ok (.istore 4, 2) := by decide +kernel
theorem dX9_check_55 : decode cX9_check 55 = .ok (.iload 4, 2) := by decide +kernel
theorem dX9_check_57 : decode cX9_check 57 = .ok (.bipush 60, 2) := by decide +kernel
theorem dX9_check_59 : decode cX9_check 59 = .ok (.if_icmp .le 6, 3) := by decide +kernel
theorem dX9_check_62 : decode cX9_check 62 = .ok (.ldc 100, 2) := by decide +kernel
theorem dX9_check_64 : decode cX9_check 64 = .ok (.ireturn, 1) := by decide +kernel
theorem dX9_check_65 : decode cX9_check 65 = .ok (.aload_n 0, 1) := by decide +kernel
theorem dX9_check_66 : decode cX9_check 66 = .ok (.getfield 76, 3) := by decide +kernel
theorem dX9_check_69 : decode cX9_check 69 = .ok (.aload_n 0, 1) := by decide +kernel
theorem dX9_check_70 : decode cX9_check 70 = .ok (.getfield 53, 3) := by decide +kernel
theorem dX9_check_73 : decode cX9_check 73 = .ok (.iload_n 3, 1) := by decide +kernel
theorem dX9_check_74 : decode cX9_check 74 = .ok (.iload_n 1, 1) := by decide +kernel
theorem dX9_check_75 : decode cX9_check 75 = .ok (.iload_n 2, 1) := by decide +kernel
theorem dX9_check_76 : decode cX9_check 76 = .ok (.invokevirtual 365, 3) := by decide +kernel
theorem dX9_check_79 : decode cX9_check 79 = .ok (.istore 5, 2) := by decide +kernel
theorem dX9_check_81 : decode cX9_check 81 = .ok (.iload 5, 2) := by decide +kernel
theorem dX9_check_83 : decode cX9_check 83 = .ok (.iload 4, 2) := by decide +kernel
theorem dX9_check_85 : decode cX9_check 85 = .ok (.if_icmp .ne 13, 3) := by decide +kernel
theorem dX9_check_88 : decode cX9_check 88 = .ok (.iload 5, 2) := by decide +kernel
theorem dX9_check_90 : decode cX9_check 90 = .ok (.iload_n 3, 1) := by decide +kernel
theorem dX9_check_91 : decode cX9_check 91 = .ok (.if_icmp .ne 7, 3) := by decide +kernel
theorem dX9_check_94 : decode cX9_check 94 = .ok (.iconst 0, 1) := by decide +kernel
theorem dX9_check_95 : decode cX9_check 95 = .ok (.goto 7, 3) := by decide +kernel
theorem dX9_check_98 : decode cX9_check 98 = .ok (.iconst 1, 1) := by decide +kernel
theorem dX9_check_99 : decode cX9_check 99 = .ok (.iload 5, 2) := by decide +kernel
theorem dX9_check_101 : decode cX9_check 101 = .ok (.iadd, 1) := by decide +kernel
theorem dX9_check_102 : decode cX9_check 102 = .ok (.ireturn, 1) := by decide +kernel
theorem dX9_keep_0 : decode cX9_keep 0 = .ok (.aload_n 0, 1) := by decide +kernel
theorem dX9_keep_1 : decode cX9_keep 1 = .ok (.getfield 76, 3) := by decide +kernel
theorem dX9_keep_4 : decode cX9_keep 4 = .ok (.aload_n 0, 1) := by decide +kernel
theorem dX9_keep_5 : decode cX9_keep 5 = .ok (.getfield 72, 3) := by decide +kernel
theorem dX9_keep_8 : decode cX9_keep 8 = .ok (.invokevirtual 369, 3) := by decide +kernel
theorem dX9_keep_11 : decode cX9_keep 11 = .ok (.aload_n 0, 1) := by decide +kernel
theorem dX9_keep_12 : decode cX9_keep 12 = .ok (.iconst 1, 1) := by decide +kernel
theorem dX9_keep_13 : decode cX9_keep 13 = .ok (.putfield 60, 3) := by decide +kernel
theorem dX9_keep_16 : decode cX9_keep 16 = .ok (.aload_n 0, 1) := by decide +kernel
theorem dX9_keep_17 : decode cX9_keep 17 = .ok (.getfield 72, 3) := by decide +kernel
theorem dX9_keep_20 : decode cX9_keep 20 = .ok (.getfield 97, 3) := by decide +kernel
theorem dX9_keep_23 : decode cX9_keep 23 = .ok (.ireturn, 1) := by decide +kernel
theorem dX9_back_0 : decode cX9_back 0 = .ok (.aload_n 0, 1) := by decide +kernel
theorem dX9_back_1 : decode cX9_back 1 = .ok (.getfield 60, 3) := by decide +kernel
theorem dX9_back_4 : decode cX9_back 4 = .ok (.ifCond .ne 6, 3) := by decide +kernel
theorem dX9_back_7 : decode cX9_back 7 = .ok (.ldc 224, 2) := by decide +kernel
theorem dX9_back_9 : decode cX9_back 9 = .ok (.ireturn, 1) := by decide +kernel
theorem dX9_back_10 : decode cX9_back 10 = .ok (.aload_n 0, 1) := by decide +kernel
theorem dX9_back_11 : decode cX9_back 11 = .ok (.getfield 72, 3) := by decide +kernel
theorem dX9_back_14 : decode cX9_back 14 = .ok (.aload_n 0, 1) := by decide +kernel
theorem dX9_back_15 : decode cX9_back 15 = .ok (.getfield 76, 3) := by decide +kernel
theorem dX9_back_18 : decode cX9_back 18 = .ok (.invokevirtual 369, 3) := by decide +kernel
theorem dX9_back_21 : decode cX9_back 21 = .ok (.aload_n 0, 1) := by decide +kernel
theorem dX9_back_22 : decode cX9_back 22 = .ok (.getfield 72, 3) := by decide +kernel
theorem dX9_back_25 : decode cX9_back 25 = .ok (.getfield 97, 3) := by decide +kernel
theorem dX9_back_28 : decode cX9_back 28 = .ok (.ireturn, 1) := by decide +kernel
theorem dX9_count_0 : decode cX9_count 0 = .ok (.iload_n 1, 1) := by decide +kernel
theorem dX9_count_1 : decode cX9_count 1 = .ok (.tableswitch 120 0 8 #[51, 59, 67, 75, 83, 91, 99, 104, 112], 51) := by decide +kernel
theorem dX9_count_52 : decode cX9_count 52 = .ok (.aload_n 0, 1) := by decide +kernel
theorem dX9_count_53 : decode cX9_count 53 = .ok (.getfield 72, 3) := by decide +kernel
theorem dX9_count_56 : decode cX9_count 56 = .ok (.getfield 97, 3) := by decide +kernel
theorem dX9_count_59 : decode cX9_count 59 = .ok (.ireturn, 1) := by decide +kernel
theorem dX9_count_60 : decode cX9_count 60 = .ok (.aload_n 0, 1) := by decide +kernel
theorem dX9_count_61 : decode cX9_count 61 = .ok (.getfield 72, 3) := by decide +kernel
theorem dX9_count_64 : decode cX9_count 64 = .ok (.invokevirtual 372, 3) := by decide +kernel
theorem dX9_count_67 : decode cX9_count 67 = .ok (.ireturn, 1) := by decide +kernel
theorem dX9_count_68 : decode cX9_count 68 = .ok (.aload_n 0, 1) := by decide +kernel
theorem dX9_count_69 : decode cX9_count 69 = .ok (.getfield 72, 3) := by decide +kernel
theorem dX9_count_72 : decode cX9_count 72 = .ok (.getfield 172, 3) := by decide +kernel
theorem dX9_count_75 : decode cX9_count 75 = .ok (.ireturn, 1) := by decide +kernel
theorem dX9_count_76 : decode cX9_count 76 = .ok (.aload_n 0, 1) := by decide +kernel
theorem dX9_count_77 : decode cX9_count 77 = .ok (.getfield 72, 3) := by decide +kernel
theorem dX9_count_80 : decode cX9_count 80 = .ok (.getfield 254, 3) := by decide +kernel
theorem dX9_count_83 : decode cX9_count 83 = .ok (.ireturn, 1) := by decide +kernel
theorem dX9_count_84 : decode cX9_count 84 = .ok (.aload_n 0, 1) := by decide +kernel
theorem dX9_count_85 : decode cX9_count 85 = .ok (.getfield 72, 3) := by decide +kernel
theorem dX9_count_88 : decode cX9_count 88 = .ok (.invokevirtual 231, 3) := by decide +kernel
theorem dX9_count_91 : decode cX9_count 91 = .ok (.ireturn, 1) := by decide +kernel
theorem dX9_count_92 : decode cX9_count 92 = .ok (.aload_n 0, 1) := by decide +kernel
theorem dX9_count_93 : decode cX9_count 93 = .ok (.getfield 72, 3) := by decide +kernel
theorem dX9_count_96 : decode cX9_count 96 = .ok (.invokevirtual 362, 3) := by decide +kernel
theorem dX9_count_99 : decode cX9_count 99 = .ok (.ireturn, 1) := by decide +kernel
theorem dX9_count_100 : decode cX9_count 100 = .ok (.aload_n 0, 1) := by decide +kernel
theorem dX9_count_101 : decode cX9_count 101 = .ok (.getfield 56, 3) := by decide +kernel
theorem dX9_count_104 : decode cX9_count 104 = .ok (.ireturn, 1) := by decide +kernel
theorem dX9_count_105 : decode cX9_count 105 = .ok (.aload_n 0, 1) := by decide +kernel
theorem dX9_count_106 : decode cX9_count 106 = .ok (.getfield 10, 3) := by decide +kernel
theorem dX9_count_109 : decode cX9_count 109 = .ok (.getfield 158, 3) := by decide +kernel
theorem dX9_count_112 : decode cX9_count 112 = .ok (.ireturn, 1) := by decide +kernel
theorem dX9_count_113 : decode cX9_count 113 = .ok (.aload_n 0, 1) := by decide +kernel
theorem dX9_count_114 : decode cX9_count 114 = .ok (.getfield 72, 3) := by decide +kernel
theorem dX9_count_117 : decode cX9_count 117 = .ok (.getfield 310, 3) := by decide +kernel
theorem dX9_count_120 : decode cX9_count 120 = .ok (.ireturn, 1) := by decide +kernel
theorem dX9_count_121 : decode cX9_count 121 = .ok (.ldc 96, 2) := by decide +kernel
theorem dX9_count_123 : decode cX9_count 123 = .ok (.ireturn, 1) := by decide +kernel
theorem dX9_isBelow_0 : decode cX9_isBelow 0 = .ok (.iload_n 0, 1) := by decide +kernel
theorem dX9_isBelow_1 : decode cX9_isBelow 1 = .ok (.ifCond .lt 12, 3) := by decide +kernel
theorem dX9_isBelow_4 : decode cX9_isBelow 4 = .ok (.iload_n 0, 1) := by decide +kernel
theorem dX9_isBelow_5 : decode cX9_isBelow 5 = .ok (.iload_n 1, 1) := by decide +kernel
theorem dX9_isBelow_6 : decode cX9_isBelow 6 = .ok (.if_icmp .ge 7, 3) := by decide +kernel
theorem dX9_isBelow_9 : decode cX9_isBelow 9 = .ok (.iconst 1, 1) := by decide +kernel
theorem dX9_isBelow_10 : decode cX9_isBelow 10 = .ok (.goto 4, 3) := by decide +kernel
theorem dX9_isBelow_13 : decode cX9_isBelow 13 = .ok (.iconst 0, 1) := by decide +kernel
theorem dX9_isBelow_14 : decode cX9_isBelow 14 = .ok (.ireturn, 1) := by decide +kernel
theorem dX9_isWithin_0 : decode cX9_isWithin 0 = .ok (.iload_n 0, 1) := by decide +kernel
theorem dX9_isWithin_1 : decode cX9_isWithin 1 = .ok (.iload_n 1, 1) := by decide +kernel
theorem dX9_isWithin_2 : decode cX9_isWithin 2 = .ok (.if_icmp .lt 12, 3) := by decide +kernel
theorem dX9_isWithin_5 : decode cX9_isWithin 5 = .ok (.iload_n 0, 1) := by decide +kernel
theorem dX9_isWithin_6 : decode cX9_isWithin 6 = .ok (.iload_n 2, 1) := by decide +kernel
theorem dX9_isWithin_7 : decode cX9_isWithin 7 = .ok (.if_icmp .gt 7, 3) := by decide +kernel
theorem dX9_isWithin_10 : decode cX9_isWithin 10 = .ok (.iconst 1, 1) := by decide +kernel
theorem dX9_isWithin_11 : decode cX9_isWithin 11 = .ok (.goto 4, 3) := by decide +kernel
theorem dX9_isWithin_14 : decode cX9_isWithin 14 = .ok (.iconst 0, 1) := by decide +kernel
theorem dX9_isWithin_15 : decode cX9_isWithin 15 = .ok (.ireturn, 1) := by decide +kernel
theorem dX9_isWhen_0 : decode cX9_isWhen 0 = .ok (.iload_n 0, 1) := by decide +kernel
theorem dX9_isWhen_1 : decode cX9_isWhen 1 = .ok (.sipush 300, 3) := by decide +kernel
theorem dX9_isWhen_4 : decode cX9_isWhen 4 = .ok (.invokestatic 84, 3) := by decide +kernel
theorem dX9_isWhen_7 : decode cX9_isWhen 7 = .ok (.ireturn, 1) := by decide +kernel
theorem dX9_areTwo_0 : decode cX9_areTwo 0 = .ok (.iload_n 0, 1) := by decide +kernel
theorem dX9_areTwo_1 : decode cX9_areTwo 1 = .ok (.iload_n 2, 1) := by decide +kernel
theorem dX9_areTwo_2 : decode cX9_areTwo 2 = .ok (.invokestatic 84, 3) := by decide +kernel
theorem dX9_areTwo_5 : decode cX9_areTwo 5 = .ok (.ifCond .eq 20, 3) := by decide +kernel
theorem dX9_areTwo_8 : decode cX9_areTwo 8 = .ok (.iload_n 1, 1) := by decide +kernel
theorem dX9_areTwo_9 : decode cX9_areTwo 9 = .ok (.iload_n 2, 1) := by decide +kernel
theorem dX9_areTwo_10 : decode cX9_areTwo 10 = .ok (.invokestatic 84, 3) := by decide +kernel
theorem dX9_areTwo_13 : decode cX9_areTwo 13 = .ok (.ifCond .eq 12, 3) := by decide +kernel
theorem dX9_areTwo_16 : decode cX9_areTwo 16 = .ok (.iload_n 0, 1) := by decide +kernel
theorem dX9_areTwo_17 : decode cX9_areTwo 17 = .ok (.iload_n 1, 1) := by decide +kernel
theorem dX9_areTwo_18 : decode cX9_areTwo 18 = .ok (.if_icmp .eq 7, 3) := by decide +kernel
theorem dX9_areTwo_21 : decode cX9_areTwo 21 = .ok (.iconst 1, 1) := by decide +kernel
theorem dX9_areTwo_22 : decode cX9_areTwo 22 = .ok (.goto 4, 3) := by decide +kernel
theorem dX9_areTwo_25 : decode cX9_areTwo 25 = .ok (.iconst 0, 1) := by decide +kernel
theorem dX9_areTwo_26 : decode cX9_areTwo 26 = .ok (.ireturn, 1) := by decide +kernel
theorem dX9_isUnder_0 : decode cX9_isUnder 0 = .ok (.iload_n 0, 1) := by decide +kernel
theorem dX9_isUnder_1 : decode cX9_isUnder 1 = .ok (.iload_n 1, 1) := by decide +kernel
theorem dX9_isUnder_2 : decode cX9_isUnder 2 = .ok (.if_icmp .eq 16, 3) := by decide +kernel
theorem dX9_isUnder_5 : decode cX9_isUnder 5 = .ok (.iload_n 1, 1) := by decide +kernel
theorem dX9_isUnder_6 : decode cX9_isUnder 6 = .ok (.ifCond .eq 12, 3) := by decide +kernel
theorem dX9_isUnder_9 : decode cX9_isUnder 9 = .ok (.getstatic 81, 3) := by decide +kernel
theorem dX9_isUnder_12 : decode cX9_isUnder 12 = .ok (.iload_n 0, 1) := by decide +kernel
theorem dX9_isUnder_13 : decode cX9_isUnder 13 = .ok (.iaload, 1) := by decide +kernel
theorem dX9_isUnder_14 : decode cX9_isUnder 14 = .ok (.iload_n 1, 1) := by decide +kernel
theorem dX9_isUnder_15 : decode cX9_isUnder 15 = .ok (.if_icmp .ne 7, 3) := by decide +kernel
theorem dX9_isUnder_18 : decode cX9_isUnder 18 = .ok (.iconst 1, 1) := by decide +kernel
theorem dX9_isUnder_19 : decode cX9_isUnder 19 = .ok (.goto 4, 3) := by decide +kernel
theorem dX9_isUnder_22 : decode cX9_isUnder 22 = .ok (.iconst 0, 1) := by decide +kernel
theorem dX9_isUnder_23 : decode cX9_isUnder 23 = .ok (.ireturn, 1) := by decide +kernel
theorem dX9_worthOf_0 : decode cX9_worthOf 0 = .ok (.iconst 1, 1) := by decide +kernel
theorem dX9_worthOf_1 : decode cX9_worthOf 1 = .ok (.istore_n 1, 1) := by decide +kernel
theorem dX9_worthOf_2 : decode cX9_worthOf 2 = .ok (.iload_n 1, 1) := by decide +kernel
theorem dX9_worthOf_3 : decode cX9_worthOf 3 = .ok (.iconst 1, 1) := by decide +kernel
theorem dX9_worthOf_4 : decode cX9_worthOf 4 = .ok (.iadd, 1) := by decide +kernel
theorem dX9_worthOf_5 : decode cX9_worthOf 5 = .ok (.istore_n 2, 1) := by decide +kernel
theorem dX9_worthOf_6 : decode cX9_worthOf 6 = .ok (.iload_n 0, 1) := by decide +kernel
theorem dX9_worthOf_7 : decode cX9_worthOf 7 = .ok (.tableswitch 45 3 7 #[33, 35, 35, 37, 41], 33) := by decide +kernel
theorem dX9_worthOf_40 : decode cX9_worthOf 40 = .ok (.iconst 5, 1) := by decide +kernel
theorem dX9_worthOf_41 : decode cX9_worthOf 41 = .ok (.ireturn, 1) := by decide +kernel
theorem dX9_worthOf_42 : decode cX9_worthOf 42 = .ok (.iload_n 2, 1) := by decide +kernel
theorem dX9_worthOf_43 : decode cX9_worthOf 43 = .ok (.ireturn, 1) := by decide +kernel
theorem dX9_worthOf_44 : decode cX9_worthOf 44 = .ok (.iload_n 1, 1) := by decide +kernel
theorem dX9_worthOf_45 : decode cX9_worthOf 45 = .ok (.iconst 2, 1) := by decide +kernel
theorem dX9_worthOf_46 : decode cX9_worthOf 46 = .ok (.iadd, 1) := by decide +kernel
theorem dX9_worthOf_47 : decode cX9_worthOf 47 = .ok (.ireturn, 1) := by decide +kernel
theorem dX9_worthOf_48 : decode cX9_worthOf 48 = .ok (.iconst 4, 1) := by decide +kernel
theorem dX9_worthOf_49 : decode cX9_worthOf 49 = .ok (.iload_n 2, 1) := by decide +kernel
theorem dX9_worthOf_50 : decode cX9_worthOf 50 = .ok (.imul, 1) := by decide +kernel
theorem dX9_worthOf_51 : decode cX9_worthOf 51 = .ok (.ireturn, 1) := by decide +kernel
theorem dX9_worthOf_52 : decode cX9_worthOf 52 = .ok (.iload_n 1, 1) := by decide +kernel
theorem dX9_worthOf_53 : decode cX9_worthOf 53 = .ok (.ireturn, 1) := by decide +kernel
theorem dX9_passageCode_0 : decode cX9_passageCode 0 = .ok (.iload_n 0, 1) := by decide +kernel
theorem dX9_passageCode_1 : decode cX9_passageCode 1 = .ok (.iload_n 1, 1) := by decide +kernel
theorem dX9_passageCode_2 : decode cX9_passageCode 2 = .ok (.invokestatic 375, 3) := by decide +kernel
theorem dX9_passageCode_5 : decode cX9_passageCode 5 = .ok (.bipush 9, 2) := by decide +kernel
theorem dX9_passageCode_7 : decode cX9_passageCode 7 = .ok (.imul, 1) := by decide +kernel
theorem dX9_passageCode_8 : decode cX9_passageCode 8 = .ok (.iload_n 0, 1) := by decide +kernel
theorem dX9_passageCode_9 : decode cX9_passageCode 9 = .ok (.iload_n 1, 1) := by decide +kernel
theorem dX9_passageCode_10 : decode cX9_passageCode 10 = .ok (.invokestatic 380, 3) := by decide +kernel
theorem dX9_passageCode_13 : decode cX9_passageCode 13 = .ok (.iadd, 1) := by decide +kernel
theorem dX9_passageCode_14 : decode cX9_passageCode 14 = .ok (.iconst 4, 1) := by decide +kernel
theorem dX9_passageCode_15 : decode cX9_passageCode 15 = .ok (.imul, 1) := by decide +kernel
theorem dX9_passageCode_16 : decode cX9_passageCode 16 = .ok (.iload_n 2, 1) := by decide +kernel
theorem dX9_passageCode_17 : decode cX9_passageCode 17 = .ok (.iadd, 1) := by decide +kernel
theorem dX9_passageCode_18 : decode cX9_passageCode 18 = .ok (.ireturn, 1) := by decide +kernel
theorem dX9_heldIn_0 : decode cX9_heldIn 0 = .ok (.iload_n 2, 1) := by decide +kernel
theorem dX9_heldIn_1 : decode cX9_heldIn 1 = .ok (.i2l, 1) := by decide +kernel
theorem dX9_heldIn_2 : decode cX9_heldIn 2 = .ok (.iload_n 3, 1) := by decide +kernel
theorem dX9_heldIn_3 : decode cX9_heldIn 3 = .ok (.i2l, 1) := by decide +kernel
theorem dX9_heldIn_4 : decode cX9_heldIn 4 = .ok (.lload_n 0, 1) := by decide +kernel
theorem dX9_heldIn_5 : decode cX9_heldIn 5 = .ok (.invokestatic 383, 3) := by decide +kernel
theorem dX9_heldIn_8 : decode cX9_heldIn 8 = .ok (.invokestatic 386, 3) := by decide +kernel
theorem dX9_heldIn_11 : decode cX9_heldIn 11 = .ok (.l2i, 1) := by decide +kernel
theorem dX9_heldIn_12 : decode cX9_heldIn 12 = .ok (.ireturn, 1) := by decide +kernel
theorem dX9_drawn_0 : decode cX9_drawn 0 = .ok (.iload_n 0, 1) := by decide +kernel
theorem dX9_drawn_1 : decode cX9_drawn 1 = .ok (.ldc_w 388, 3) := by decide +kernel
theorem dX9_drawn_4 : decode cX9_drawn 4 = .ok (.imul, 1) := by decide +kernel
theorem dX9_drawn_5 : decode cX9_drawn 5 = .ok (.sipush 12345, 3) := by decide +kernel
theorem dX9_drawn_8 : decode cX9_drawn 8 = .ok (.iadd, 1) := by decide +kernel
theorem dX9_drawn_9 : decode cX9_drawn 9 = .ok (.ireturn, 1) := by decide +kernel
theorem dX9_sight_0 : decode cX9_sight 0 = .ok (.iload_n 1, 1) := by decide +kernel
theorem dX9_sight_1 : decode cX9_sight 1 = .ok (.iload_n 2, 1) := by decide +kernel
theorem dX9_sight_2 : decode cX9_sight 2 = .ok (.isub, 1) := by decide +kernel
theorem dX9_sight_3 : decode cX9_sight 3 = .ok (.iload_n 0, 1) := by decide +kernel
theorem dX9_sight_4 : decode cX9_sight 4 = .ok (.bipush 8, 2) := by decide +kernel
theorem dX9_sight_6 : decode cX9_sight 6 = .ok (.iushr, 1) := by decide +kernel
theorem dX9_sight_7 : decode cX9_sight 7 = .ok (.iconst 2, 1) := by decide +kernel
theorem dX9_sight_8 : decode cX9_sight 8 = .ok (.iload_n 2, 1) := by decide +kernel
theorem dX9_sight_9 : decode cX9_sight 9 = .ok (.imul, 1) := by decide +kernel
theorem dX9_sight_10 : decode cX9_sight 10 = .ok (.iconst 1, 1) := by decide +kernel
theorem dX9_sight_11 : decode cX9_sight 11 = .ok (.iadd, 1) := by decide +kernel
theorem dX9_sight_12 : decode cX9_sight 12 = .ok (.irem, 1) := by decide +kernel
theorem dX9_sight_13 : decode cX9_sight 13 = .ok (.iadd, 1) := by decide +kernel
theorem dX9_sight_14 : decode cX9_sight 14 = .ok (.ireturn, 1) := by decide +kernel
theorem dX9_changesBetween_0 : decode cX9_changesBetween 0 = .ok (.iconst 0, 1) := by decide +kernel
theorem dX9_changesBetween_1 : decode cX9_changesBetween 1 = .ok (.istore_n 3, 1) := by decide +kernel
theorem dX9_changesBetween_2 : decode cX9_changesBetween 2 = .ok (.iload_n 3, 1) := by decide +kernel
theorem dX9_changesBetween_3 : decode cX9_changesBetween 3 = .ok (.aload_n 2, 1) := by decide +kernel
theorem dX9_changesBetween_4 : decode cX9_changesBetween 4 = .ok (.getfield 321, 3) := by decide +kernel
theorem dX9_changesBetween_7 : decode cX9_changesBetween 7 = .ok (.if_icmp .gt 16, 3) := by decide +kernel
theorem dX9_changesBetween_10 : decode cX9_changesBetween 10 = .ok (.aload_n 0, 1) := by decide +kernel
theorem dX9_changesBetween_11 : decode cX9_changesBetween 11 = .ok (.getfield 49, 3) := by decide +kernel
theorem dX9_changesBetween_14 : decode cX9_changesBetween 14 = .ok (.iload_n 3, 1) := by decide +kernel
theorem dX9_changesBetween_15 : decode cX9_changesBetween 15 = .ok (.iload_n 3, 1) := by decide +kernel
theorem dX9_changesBetween_16 : decode cX9_changesBetween 16 = .ok (.iastore, 1) := by decide +kernel
theorem dX9_changesBetween_17 : decode cX9_changesBetween 17 = .ok (.iinc 3 1, 3) := by decide +kernel
theorem dX9_changesBetween_20 : decode cX9_changesBetween 20 = .ok (.goto (-18), 3) := by decide +kernel
theorem dX9_changesBetween_23 : decode cX9_changesBetween 23 = .ok (.iconst 1, 1) := by decide +kernel
theorem dX9_changesBetween_24 : decode cX9_changesBetween 24 = .ok (.istore_n 3, 1) := by decide +kernel
theorem dX9_changesBetween_25 : decode cX9_changesBetween 25 = .ok (.iload_n 3, 1) := by decide +kernel
theorem dX9_changesBetween_26 : decode cX9_changesBetween 26 = .ok (.aload_n 1, 1) := by decide +kernel
theorem dX9_changesBetween_27 : decode cX9_changesBetween 27 = .ok (.getfield 321, 3) := by decide +kernel
theorem dX9_changesBetween_30 : decode cX9_changesBetween 30 = .ok (.if_icmp .gt 114, 3) := by decide +kernel
theorem dX9_changesBetween_33 : decode cX9_changesBetween 33 = .ok (.aload_n 0, 1) := by decide +kernel
theorem dX9_changesBetween_34 : decode cX9_changesBetween 34 = .ok (.getfield 49, 3) := by decide +kernel
theorem dX9_changesBetween_37 : decode cX9_changesBetween 37 = .ok (.iconst 0, 1) := by decide +kernel
theorem dX9_changesBetween_38 : decode cX9_changesBetween 38 = .ok (.iaload, 1) := by decide +kernel
theorem dX9_changesBetween_39 : decode cX9_changesBetween 39 = .ok (.istore 4, 2) := by decide +kernel
theorem dX9_changesBetween_41 : decode cX9_changesBetween 41 = .ok (.aload_n 0, 1) := by decide +kernel
theorem dX9_changesBetween_42 : decode cX9_changesBetween 42 = .ok (.getfield 49, 3) := by decide +kernel
theorem dX9_changesBetween_45 : decode cX9_changesBetween 45 = .ok (.iconst 0, 1) := by decide +kernel
theorem dX9_changesBetween_46 : decode cX9_changesBetween 46 = .ok (.iload_n 3, 1) := by decide +kernel
theorem dX9_changesBetween_47 : decode cX9_changesBetween 47 = .ok (.iastore, 1) := by decide +kernel
theorem dX9_changesBetween_48 : decode cX9_changesBetween 48 = .ok (.iconst 1, 1) := by decide +kernel
theorem dX9_changesBetween_49 : decode cX9_changesBetween 49 = .ok (.istore 5, 2) := by decide +kernel
theorem dX9_changesBetween_51 : decode cX9_changesBetween 51 = .ok (.iload 5, 2) := by decide +kernel
theorem dX9_changesBetween_53 : decode cX9_changesBetween 53 = .ok (.aload_n 2, 1) := by decide +kernel
theorem dX9_changesBetween_54 : decode cX9_changesBetween 54 = .ok (.getfield 321, 3) := by decide +kernel
theorem dX9_changesBetween_57 : decode cX9_changesBetween 57 = .ok (.if_icmp .gt 81, 3) := by decide +kernel
theorem dX9_changesBetween_60 : decode cX9_changesBetween 60 = .ok (.aload_n 0, 1) := by decide +kernel
theorem dX9_changesBetween_61 : decode cX9_changesBetween 61 = .ok (.getfield 49, 3) := by decide +kernel
theorem dX9_changesBetween_64 : decode cX9_changesBetween 64 = .ok (.iload 5, 2) := by decide +kernel
theorem dX9_changesBetween_66 : decode cX9_changesBetween 66 = .ok (.iaload, 1) := by decide +kernel
theorem dX9_changesBetween_67 : decode cX9_changesBetween 67 = .ok (.istore 6, 2) := by decide +kernel
theorem dX9_changesBetween_69 : decode cX9_changesBetween 69 = .ok (.aload_n 1, 1) := by decide +kernel
theorem dX9_changesBetween_70 : decode cX9_changesBetween 70 = .ok (.getfield 327, 3) := by decide +kernel
theorem dX9_changesBetween_73 : decode cX9_changesBetween 73 = .ok (.iload_n 3, 1) := by decide +kernel
theorem dX9_changesBetween_74 : decode cX9_changesBetween 74 = .ok (.iconst 1, 1) := by decide +kernel
theorem dX9_changesBetween_75 : decode cX9_changesBetween 75 = .ok (.isub, 1) := by decide +kernel
theorem dX9_changesBetween_76 : decode cX9_changesBetween 76 = .ok (.iaload, 1) := by decide +kernel
theorem dX9_changesBetween_77 : decode cX9_changesBetween 77 = .ok (.aload_n 2, 1) := by decide +kernel
theorem dX9_changesBetween_78 : decode cX9_changesBetween 78 = .ok (.getfield 327, 3) := by decide +kernel
theorem dX9_changesBetween_81 : decode cX9_changesBetween 81 = .ok (.iload 5, 2) := by decide +kernel
theorem dX9_changesBetween_83 : decode cX9_changesBetween 83 = .ok (.iconst 1, 1) := by decide +kernel
theorem dX9_changesBetween_84 : decode cX9_changesBetween 84 = .ok (.isub, 1) := by decide +kernel
theorem dX9_changesBetween_85 : decode cX9_changesBetween 85 = .ok (.iaload, 1) := by decide +kernel
theorem dX9_changesBetween_86 : decode cX9_changesBetween 86 = .ok (.if_icmp .ne 8, 3) := by decide +kernel
theorem dX9_changesBetween_89 : decode cX9_changesBetween 89 = .ok (.iload 4, 2) := by decide +kernel
theorem dX9_changesBetween_91 : decode cX9_changesBetween 91 = .ok (.goto 7, 3) := by decide +kernel
theorem dX9_changesBetween_94 : decode cX9_changesBetween 94 = .ok (.iload 4, 2) := by decide +kernel
theorem dX9_changesBetween_96 : decode cX9_changesBetween 96 = .ok (.iconst 1, 1) := by decide +kernel
theorem dX9_changesBetween_97 : decode cX9_changesBetween 97 = .ok (.iadd, 1) := by decide +kernel
theorem dX9_changesBetween_98 : decode cX9_changesBetween 98 = .ok (.istore 7, 2) := by decide +kernel
theorem dX9_changesBetween_100 : decode cX9_changesBetween 100 = .ok (.aload_n 0, 1) := by decide +kernel
theorem dX9_changesBetween_101 : decode cX9_changesBetween 101 = .ok (.getfield 49, 3) := by decide +kernel
theorem dX9_changesBetween_104 : decode cX9_changesBetween 104 = .ok (.iload 5, 2) := by decide +kernel
theorem dX9_changesBetween_106 : decode cX9_changesBetween 106 = .ok (.iload 7, 2) := by decide +kernel
theorem dX9_changesBetween_108 : decode cX9_changesBetween 108 = .ok (.iload 6, 2) := by decide +kernel
theorem dX9_changesBetween_110 : decode cX9_changesBetween 110 = .ok (.aload_n 0, 1) := by decide +kernel
theorem dX9_changesBetween_111 : decode cX9_changesBetween 111 = .ok (.getfield 49, 3) := by decide +kernel
theorem dX9_changesBetween_114 : decode cX9_changesBetween 114 = .ok (.iload 5, 2) := by decide +kernel
theorem dX9_changesBetween_116 : decode cX9_changesBetween 116 = .ok (.iconst 1, 1) := by decide +kernel
theorem dX9_changesBetween_117 : decode cX9_changesBetween 117 = .ok (.isub, 1) := by decide +kernel
theorem dX9_changesBetween_118 : decode cX9_changesBetween 118 = .ok (.iaload, 1) := by decide +kernel
theorem dX9_changesBetween_119 : decode cX9_changesBetween 119 = .ok (.invokestatic 375, 3) := by decide +kernel
theorem dX9_changesBetween_122 : decode cX9_changesBetween 122 = .ok (.iconst 1, 1) := by decide +kernel
theorem dX9_changesBetween_123 : decode cX9_changesBetween 123 = .ok (.iadd, 1) := by decide +kernel
theorem dX9_changesBetween_124 : decode cX9_changesBetween 124 = .ok (.invokestatic 375, 3) := by decide +kernel
theorem dX9_changesBetween_127 : decode cX9_changesBetween 127 = .ok (.iastore, 1) := by decide +kernel
theorem dX9_changesBetween_128 : decode cX9_changesBetween 128 = .ok (.iload 6, 2) := by decide +kernel
theorem dX9_changesBetween_130 : decode cX9_changesBetween 130 = .ok (.istore 4, 2) := by decide +kernel
theorem dX9_changesBetween_132 : decode cX9_changesBetween 132 = .ok (.iinc 5 1, 3) := by decide +kernel
theorem dX9_changesBetween_135 : decode cX9_changesBetween 135 = .ok (.goto (-84), 3) := by decide +kernel
theorem dX9_changesBetween_138 : decode cX9_changesBetween 138 = .ok (.iinc 3 1, 3) := by decide +kernel
theorem dX9_changesBetween_141 : decode cX9_changesBetween 141 = .ok (.goto (-116), 3) := by decide +kernel
theorem dX9_changesBetween_144 : decode cX9_changesBetween 144 = .ok (.aload_n 0, 1) := by decide +kernel
theorem dX9_changesBetween_145 : decode cX9_changesBetween 145 = .ok (.getfield 49, 3) := by decide +kernel
theorem dX9_changesBetween_148 : decode cX9_changesBetween 148 = .ok (.aload_n 2, 1) := by decide +kernel
theorem dX9_changesBetween_149 : decode cX9_changesBetween 149 = .ok (.getfield 321, 3) := by decide +kernel
theorem dX9_changesBetween_152 : decode cX9_changesBetween 152 = .ok (.iaload, 1) := by decide +kernel
theorem dX9_changesBetween_153 : decode cX9_changesBetween 153 = .ok (.ireturn, 1) := by decide +kernel
theorem dX10_init_0 : decode cX10_init 0 = .ok (.aload_n 0, 1) := by decide +kernel
theorem dX10_init_1 : decode cX10_init 1 = .ok (.invokespecial 1, 3) := by decide +kernel
theorem dX10_init_4 : decode cX10_init 4 = .ok (.aload_n 0, 1) := by decide +kernel
theorem dX10_init_5 : decode cX10_init 5 = .ok (.sipush 3300, 3) := by decide +kernel
theorem dX10_init_8 : decode cX10_init 8 = .ok (.newarray .int, 2) := by decide +kernel
theorem dX10_init_10 : decode cX10_init 10 = .ok (.putfield 7, 3) := by decide +kernel
theorem dX10_init_13 : decode cX10_init 13 = .ok (.aload_n 0, 1) := by decide +kernel
theorem dX10_init_14 : decode cX10_init 14 = .ok (.sipush 3300, 3) := by decide +kernel
theorem dX10_init_17 : decode cX10_init 17 = .ok (.newarray .int, 2) := by decide +kernel
theorem dX10_init_19 : decode cX10_init 19 = .ok (.putfield 13, 3) := by decide +kernel
theorem dX10_init_22 : decode cX10_init 22 = .ok (.aload_n 0, 1) := by decide +kernel
theorem dX10_init_23 : decode cX10_init 23 = .ok (.sipush 3300, 3) := by decide +kernel
theorem dX10_init_26 : decode cX10_init 26 = .ok (.newarray .int, 2) := by decide +kernel
theorem dX10_init_28 : decode cX10_init 28 = .ok (.putfield 16, 3) := by decide +kernel
theorem dX10_init_31 : decode cX10_init 31 = .ok (.aload_n 0, 1) := by decide +kernel
theorem dX10_init_32 : decode cX10_init 32 = .ok (.iconst 4, 1) := by decide +kernel
theorem dX10_init_33 : decode cX10_init 33 = .ok (.newarray .int, 2) := by decide +kernel
theorem dX10_init_35 : decode cX10_init 35 = .ok (.putfield 19, 3) := by decide +kernel
theorem dX10_init_38 : decode cX10_init 38 = .ok (.aload_n 0, 1) := by decide +kernel
theorem dX10_init_39 : decode cX10_init 39 = .ok (.iconst 4, 1) := by decide +kernel
theorem dX10_init_40 : decode cX10_init 40 = .ok (.newarray .int, 2) := by decide +kernel
theorem dX10_init_42 : decode cX10_init 42 = .ok (.putfield 22, 3) := by decide +kernel
theorem dX10_init_45 : decode cX10_init 45 = .ok (.aload_n 0, 1) := by decide +kernel
theorem dX10_init_46 : decode cX10_init 46 = .ok (.bipush 96, 2) := by decide +kernel
theorem dX10_init_48 : decode cX10_init 48 = .ok (.newarray .int, 2) := by decide +kernel
theorem dX10_init_50 : decode cX10_init 50 = .ok (.putfield 25, 3) := by decide +kernel
theorem dX10_init_53 : decode cX10_init 53 = .ok (.aload_n 0, 1) := by decide +kernel
theorem dX10_init_54 : decode cX10_init 54 = .ok (.iconst 5, 1) := by decide +kernel
theorem dX10_init_55 : decode cX10_init 55 = .ok (.newarray .int, 2) := by decide +kernel
theorem dX10_init_57 : decode cX10_init 57 = .ok (.putfield 28, 3) := by decide +kernel
theorem dX10_init_60 : decode cX10_init 60 = .ok (.aload_n 0, 1) := by decide +kernel
theorem dX10_init_61 : decode cX10_init 61 = .ok (.iconst 5, 1) := by decide +kernel
theorem dX10_init_62 : decode cX10_init 62 = .ok (.newarray .int, 2) := by decide +kernel
theorem dX10_init_64 : decode cX10_init 64 = .ok (.putfield 31, 3) := by decide +kernel
theorem dX10_init_67 : decode cX10_init 67 = .ok (.aload_n 0, 1) := by decide +kernel
theorem dX10_init_68 : decode cX10_init 68 = .ok (.iconst 5, 1) := by decide +kernel
theorem dX10_init_69 : decode cX10_init 69 = .ok (.newarray .int, 2) := by decide +kernel
theorem dX10_init_71 : decode cX10_init 71 = .ok (.putfield 34, 3) := by decide +kernel
theorem dX10_init_74 : decode cX10_init 74 = .ok (.aload_n 0, 1) := by decide +kernel
theorem dX10_init_75 : decode cX10_init 75 = .ok (.iconst 5, 1) := by decide +kernel
theorem dX10_init_76 : decode cX10_init 76 = .ok (.newarray .int, 2) := by decide +kernel
theorem dX10_init_78 : decode cX10_init 78 = .ok (.putfield 37, 3) := by decide +kernel
theorem dX10_init_81 : decode cX10_init 81 = .ok (.aload_n 0, 1) := by decide +kernel
theorem dX10_init_82 : decode cX10_init 82 = .ok (.bipush 120, 2) := by decide +kernel
theorem dX10_init_84 : decode cX10_init 84 = .ok (.newarray .int, 2) := by decide +kernel
theorem dX10_init_86 : decode cX10_init 86 = .ok (.putfield 40, 3) := by decide +kernel
theorem dX10_init_89 : decode cX10_init 89 = .ok (.aload_n 0, 1) := by decide +kernel
theorem dX10_init_90 : decode cX10_init 90 = .ok (.bipush 96, 2) := by decide +kernel
theorem dX10_init_92 : decode cX10_init 92 = .ok (.newarray .int, 2) := by decide +kernel
theorem dX10_init_94 : decode cX10_init 94 = .ok (.putfield 43, 3) := by decide +kernel
theorem dX10_init_97 : decode cX10_init 97 = .ok (.aload_n 0, 1) := by decide +kernel
theorem dX10_init_98 : decode cX10_init 98 = .ok (.sipush 128, 3) := by decide +kernel
theorem dX10_init_101 : decode cX10_init 101 = .ok (.newarray .int, 2) := by decide +kernel
theorem dX10_init_103 : decode cX10_init 103 = .ok (.putfield 46, 3) := by decide +kernel
theorem dX10_init_106 : decode cX10_init 106 = .ok (.aload_n 0, 1) := by decide +kernel
theorem dX10_init_107 : decode cX10_init 107 = .ok (.bipush 100, 2) := by decide +kernel
theorem dX10_init_109 : decode cX10_init 109 = .ok (.newarray .int, 2) := by decide +kernel
theorem dX10_init_111 : decode cX10_init 111 = .ok (.putfield 49, 3) := by decide +kernel
theorem dX10_init_114 : decode cX10_init 114 = .ok (.aload_n 0, 1) := by decide +kernel
theorem dX10_init_115 : decode cX10_init 115 = .ok (.bipush 25, 2) := by decide +kernel
theorem dX10_init_117 : decode cX10_init 117 = .ok (.newarray .int, 2) := by decide +kernel
theorem dX10_init_119 : decode cX10_init 119 = .ok (.putfield 52, 3) := by decide +kernel
theorem dX10_init_122 : decode cX10_init 122 = .ok (.aload_n 0, 1) := by decide +kernel
theorem dX10_init_123 : decode cX10_init 123 = .ok (.iconst 5, 1) := by decide +kernel
theorem dX10_init_124 : decode cX10_init 124 = .ok (.newarray .int, 2) := by decide +kernel
theorem dX10_init_126 : decode cX10_init 126 = .ok (.putfield 55, 3) := by decide +kernel
theorem dX10_init_129 : decode cX10_init 129 = .ok (.aload_n 0, 1) := by decide +kernel
theorem dX10_init_130 : decode cX10_init 130 = .ok (.iconst 5, 1) := by decide +kernel
theorem dX10_init_131 : decode cX10_init 131 = .ok (.newarray .int, 2) := by decide +kernel
theorem dX10_init_133 : decode cX10_init 133 = .ok (.putfield 58, 3) := by decide +kernel
theorem dX10_init_136 : decode cX10_init 136 = .ok (.aload_n 0, 1) := by decide +kernel
theorem dX10_init_137 : decode cX10_init 137 = .ok (.bipush 24, 2) := by decide +kernel
theorem dX10_init_139 : decode cX10_init 139 = .ok (.newarray .int, 2) := by decide +kernel
theorem dX10_init_141 : decode cX10_init 141 = .ok (.putfield 61, 3) := by decide +kernel
theorem dX10_init_144 : decode cX10_init 144 = .ok (.aload_n 0, 1) := by decide +kernel
theorem dX10_init_145 : decode cX10_init 145 = .ok (.bipush 24, 2) := by decide +kernel
theorem dX10_init_147 : decode cX10_init 147 = .ok (.newarray .int, 2) := by decide +kernel
theorem dX10_init_149 : decode cX10_init 149 = .ok (.putfield 64, 3) := by decide +kernel
theorem dX10_init_152 : decode cX10_init 152 = .ok (.aload_n 0, 1) := by decide +kernel
theorem dX10_init_153 : decode cX10_init 153 = .ok (.bipush 24, 2) := by decide +kernel
theorem dX10_init_155 : decode cX10_init 155 = .ok (.newarray .int, 2) := by decide +kernel
theorem dX10_init_157 : decode cX10_init 157 = .ok (.putfield 67, 3) := by decide +kernel
theorem dX10_init_160 : decode cX10_init 160 = .ok (.aload_n 0, 1) := by decide +kernel
theorem dX10_init_161 : decode cX10_init 161 = .ok (.sipush 625, 3) := by decide +kernel
theorem dX10_init_164 : decode cX10_init 164 = .ok (.newarray .int, 2) := by decide +kernel
theorem dX10_init_166 : decode cX10_init 166 = .ok (.putfield 70, 3) := by decide +kernel
theorem dX10_init_169 : decode cX10_init 169 = .ok (.aload_n 0, 1) := by decide +kernel
theorem dX10_init_170 : decode cX10_init 170 = .ok (.bipush 60, 2) := by decide +kernel
theorem dX10_init_172 : decode cX10_init 172 = .ok (.newarray .int, 2) := by decide +kernel
theorem dX10_init_174 : decode cX10_init 174 = .ok (.putfield 73, 3) := by decide +kernel
theorem dX10_init_177 : decode cX10_init 177 = .ok (.aload_n 0, 1) := by decide +kernel
theorem dX10_init_178 : decode cX10_init 178 = .ok (.bipush 60, 2) := by decide +kernel
theorem dX10_init_180 : decode cX10_init 180 = .ok (.newarray .int, 2) := by decide +kernel
theorem dX10_init_182 : decode cX10_init 182 = .ok (.putfield 76, 3) := by decide +kernel
theorem dX10_init_185 : decode cX10_init 185 = .ok (.aload_n 0, 1) := by decide +kernel
theorem dX10_init_186 : decode cX10_init 186 = .ok (.getfield 7, 3) := by decide +kernel
theorem dX10_init_189 : decode cX10_init 189 = .ok (.iconst 4, 1) := by decide +kernel
theorem dX10_init_190 : decode cX10_init 190 = .ok (.iconst 1, 1) := by decide +kernel
theorem dX10_init_191 : decode cX10_init 191 = .ok (.iastore, 1) := by decide +kernel
theorem dX10_init_192 : decode cX10_init 192 = .ok (.iconst 0, 1) := by decide +kernel
theorem dX10_init_193 : decode cX10_init 193 = .ok (.istore_n 1, 1) := by decide +kernel
theorem dX10_init_194 : decode cX10_init 194 = .ok (.iload_n 1, 1) := by decide +kernel
theorem dX10_init_195 : decode cX10_init 195 = .ok (.bipush 9, 2) := by decide +kernel
theorem dX10_init_197 : decode cX10_init 197 = .ok (.if_icmp .ge 19, 3) := by decide +kernel
theorem dX10_init_200 : decode cX10_init 200 = .ok (.aload_n 0, 1) := by decide +kernel
theorem dX10_init_201 : decode cX10_init 201 = .ok (.getfield 7, 3) := by decide +kernel
theorem dX10_init_204 : decode cX10_init 204 = .ok (.bipush 20, 2) := by decide +kernel
theorem dX10_init_206 : decode cX10_init 206 = .ok (.iload_n 1, 1) := by decide +kernel
theorem dX10_init_207 : decode cX10_init 207 = .ok (.iadd, 1) := by decide +kernel
theorem dX10_init_208 : decode cX10_init 208 = .ok (.iconst (-1), 1) := by decide +kernel
theorem dX10_init_209 : decode cX10_init 209 = .ok (.iastore, 1) := by decide +kernel
theorem dX10_init_210 : decode cX10_init 210 = .ok (.iinc 1 1, 3) := by decide +kernel
theorem dX10_init_213 : decode cX10_init 213 = .ok (.goto (-19), 3) := by decide +kernel
theorem dX10_init_216 : decode cX10_init 216 = .ok (.iconst 0, 1) := by decide +kernel
theorem dX10_init_217 : decode cX10_init 217 = .ok (.istore_n 1, 1) := by decide +kernel
theorem dX10_init_218 : decode cX10_init 218 = .ok (.iload_n 1, 1) := by decide +kernel
theorem dX10_init_219 : decode cX10_init 219 = .ok (.iconst 4, 1) := by decide +kernel
theorem dX10_init_220 : decode cX10_init 220 = .ok (.if_icmp .ge 16, 3) := by decide +kernel
theorem dX10_init_223 : decode cX10_init 223 = .ok (.aload_n 0, 1) := by decide +kernel
theorem dX10_init_224 : decode cX10_init 224 = .ok (.getfield 19, 3) := by decide +kernel
theorem dX10_init_227 : decode cX10_init 227 = .ok (.iload_n 1, 1) := by decide +kernel
theorem dX10_init_228 : decode cX10_init 228 = .ok (.iconst (-1), 1) := by decide +kernel
theorem dX10_init_229 : decode cX10_init 229 = .ok (.iastore, 1) := by decide +kernel
theorem dX10_init_230 : decode cX10_init 230 = .ok (.iinc 1 1, 3) := by decide +kernel
theorem dX10_init_233 : decode cX10_init 233 = .ok (.goto (-15), 3) := by decide +kernel
theorem dX10_init_236 : decode cX10_init 236 = .ok (.return_, 1) := by decide +kernel
theorem dX10_isIn_0 : decode cX10_isIn 0 = .ok (.lload_n 0, 1) := by decide +kernel
theorem dX10_isIn_1 : decode cX10_isIn 1 = .ok (.lload_n 2, 1) := by decide +kernel
theorem dX10_isIn_2 : decode cX10_isIn 2 = .ok (.lcmp, 1) := by decide +kernel
theorem dX10_isIn_3 : decode cX10_isIn 3 = .ok (.ifCond .lt 14, 3) := by decide +kernel
theorem dX10_isIn_6 : decode cX10_isIn 6 = .ok (.lload_n 0, 1) := by decide +kernel
theorem dX10_isIn_7 : decode cX10_isIn 7 = .ok (.lload 4, 2) := by decide +kernel
theorem dX10_isIn_9 : decode cX10_isIn 9 = .ok (.lcmp, 1) := by decide +kernel
theorem dX10_isIn_10 : decode cX10_isIn 10 = .ok (.ifCond .gt 7, 3) := by decide +kernel
theorem dX10_isIn_13 : decode cX10_isIn 13 = .ok (.iconst 1, 1) := by decide +kernel
theorem dX10_isIn_14 : decode cX10_isIn 14 = .ok (.goto 4, 3) := by decide +kernel
theorem dX10_isIn_17 : decode cX10_isIn 17 = .ok (.iconst 0, 1) := by decide +kernel
theorem dX10_isIn_18 : decode cX10_isIn 18 = .ok (.ireturn, 1) := by decide +kernel
theorem dX10_orNone_0 : decode cX10_orNone 0 = .ok (.iload_n 0, 1) := by decide +kernel
theorem dX10_orNone_1 : decode cX10_orNone 1 = .ok (.ifCond .ge 8, 3) := by decide +kernel
theorem dX10_orNone_4 : decode cX10_orNone 4 = .ok (.ldc 79, 2) := by decide +kernel
theorem dX10_orNone_6 : decode cX10_orNone 6 = .ok (.goto 4, 3) := by decide +kernel
theorem dX10_orNone_9 : decode cX10_orNone 9 = .ok (.iload_n 0, 1) := by decide +kernel
theorem dX10_orNone_10 : decode cX10_orNone 10 = .ok (.ireturn, 1) := by decide +kernel
theorem dX10_least_0 : decode cX10_least 0 = .ok (.iload_n 0, 1) := by decide +kernel
theorem dX10_least_1 : decode cX10_least 1 = .ok (.iload_n 1, 1) := by decide +kernel
theorem dX10_least_2 : decode cX10_least 2 = .ok (.if_icmp .ge 7, 3) := by decide +kernel
theorem dX10_least_5 : decode cX10_least 5 = .ok (.iload_n 0, 1) := by decide +kernel
theorem dX10_least_6 : decode cX10_least 6 = .ok (.goto 4, 3) := by decide +kernel
theorem dX10_least_9 : decode cX10_least 9 = .ok (.iload_n 1, 1) := by decide +kernel
theorem dX10_least_10 : decode cX10_least 10 = .ok (.ireturn, 1) := by decide +kernel
theorem dX10_size_0 : decode cX10_size 0 = .ok (.iload_n 0, 1) := by decide +kernel
theorem dX10_size_1 : decode cX10_size 1 = .ok (.ifCond .ge 8, 3) := by decide +kernel
theorem dX10_size_4 : decode cX10_size 4 = .ok (.iload_n 0, 1) := by decide +kernel
theorem dX10_size_5 : decode cX10_size 5 = .ok (.ineg, 1) := by decide +kernel
theorem dX10_size_6 : decode cX10_size 6 = .ok (.goto 4, 3) := by decide +kernel
theorem dX10_size_9 : decode cX10_size 9 = .ok (.iload_n 0, 1) := by decide +kernel
theorem dX10_size_10 : decode cX10_size 10 = .ok (.ireturn, 1) := by decide +kernel
theorem dX10_heldIn_0 : decode cX10_heldIn 0 = .ok (.lload_n 0, 1) := by decide +kernel
theorem dX10_heldIn_1 : decode cX10_heldIn 1 = .ok (.iload_n 2, 1) := by decide +kernel
theorem dX10_heldIn_2 : decode cX10_heldIn 2 = .ok (.i2l, 1) := by decide +kernel
theorem dX10_heldIn_3 : decode cX10_heldIn 3 = .ok (.lcmp, 1) := by decide +kernel
theorem dX10_heldIn_4 : decode cX10_heldIn 4 = .ok (.ifCond .ge 7, 3) := by decide +kernel
theorem dX10_heldIn_7 : decode cX10_heldIn 7 = .ok (.iload_n 2, 1) := by decide +kernel
theorem dX10_heldIn_8 : decode cX10_heldIn 8 = .ok (.goto 16, 3) := by decide +kernel
theorem dX10_heldIn_11 : decode cX10_heldIn 11 = .ok (.lload_n 0, 1) := by decide +kernel
theorem dX10_heldIn_12 : decode cX10_heldIn 12 = .ok (.iload_n 3, 1) := by decide +kernel
theorem dX10_heldIn_13 : decode cX10_heldIn 13 = .ok (.i2l, 1) := by decide +kernel
theorem dX10_heldIn_14 : decode cX10_heldIn 14 = .ok (.lcmp, 1) := by decide +kernel
theorem dX10_heldIn_15 : decode cX10_heldIn 15 = .ok (.ifCond .le 7, 3) := by decide +kernel
theorem dX10_heldIn_18 : decode cX10_heldIn 18 = .ok (.iload_n 3, 1) := by decide +kernel
theorem dX10_heldIn_19 : decode cX10_heldIn 19 = .ok (.goto 5, 3) := by decide +kernel
theorem dX10_heldIn_22 : decode cX10_heldIn 22 = .ok (.lload_n 0, 1) := by decide +kernel
theorem dX10_heldIn_23 : decode cX10_heldIn 23 = .ok (.l2i, 1) := by decide +kernel
theorem dX10_heldIn_24 : decode cX10_heldIn 24 = .ok (.ireturn, 1) := by decide +kernel
theorem dX10_becomes_0 : decode cX10_becomes 0 = .ok (.aload_n 0, 1) := by decide +kernel
theorem dX10_becomes_1 : decode cX10_becomes 1 = .ok (.getfield 7, 3) := by decide +kernel
theorem dX10_becomes_4 : decode cX10_becomes 4 = .ok (.iload_n 1, 1) := by decide +kernel
theorem dX10_becomes_5 : decode cX10_becomes 5 = .ok (.iaload, 1) := by decide +kernel
theorem dX10_becomes_6 : decode cX10_becomes 6 = .ok (.istore_n 3, 1) := by decide +kernel
theorem dX10_becomes_7 : decode cX10_becomes 7 = .ok (.aload_n 0, 1) := by decide +kernel
theorem dX10_becomes_8 : decode cX10_becomes 8 = .ok (.getfield 7, 3) := by decide +kernel
theorem dX10_becomes_11 : decode cX10_becomes 11 = .ok (.iload_n 1, 1) := by decide +kernel
theorem dX10_becomes_12 : decode cX10_becomes 12 = .ok (.iload_n 2, 1) := by decide +kernel
theorem dX10_becomes_13 : decode cX10_becomes 13 = .ok (.iastore, 1) := by decide +kernel
theorem dX10_becomes_14 : decode cX10_becomes 14 = .ok (.iload_n 3, 1) := by decide +kernel
theorem dX10_becomes_15 : decode cX10_becomes 15 = .ok (.ireturn, 1) := by decide +kernel
theorem dX10_markAt_0 : decode cX10_markAt 0 = .ok (.bipush 120, 2) := by decide +kernel
theorem dX10_markAt_2 : decode cX10_markAt 2 = .ok (.bipush 7, 2) := by decide +kernel
theorem dX10_markAt_4 : decode cX10_markAt 4 = .ok (.iload_n 1, 1) := by decide +kernel
theorem dX10_markAt_5 : decode cX10_markAt 5 = .ok (.imul, 1) := by decide +kernel
theorem dX10_markAt_6 : decode cX10_markAt 6 = .ok (.iadd, 1) := by decide +kernel
theorem dX10_markAt_7 : decode cX10_markAt 7 = .ok (.ireturn, 1) := by decide +kernel
theorem dX10_field_0 : decode cX10_field 0 = .ok (.aload_n 0, 1) := by decide +kernel
theorem dX10_field_1 : decode cX10_field 1 = .ok (.getfield 7, 3) := by decide +kernel
theorem dX10_field_4 : decode cX10_field 4 = .ok (.bipush 120, 2) := by decide +kernel
theorem dX10_field_6 : decode cX10_field 6 = .ok (.bipush 7, 2) := by decide +kernel
theorem dX10_field_8 : decode cX10_field 8 = .ok (.iload_n 1, 1) := by decide +kernel
theorem dX10_field_9 : decode cX10_field 9 = .ok (.imul, 1) := by decide +kernel
theorem dX10_field_10 : decode cX10_field 10 = .ok (.iadd, 1) := by decide +kernel
theorem dX10_field_11 : decode cX10_field 11 = .ok (.iload_n 2, 1) := by decide +kernel
theorem dX10_field_12 : decode cX10_field 12 = .ok (.iadd, 1) := by decide +kernel
theorem dX10_field_13 : decode cX10_field 13 = .ok (.iaload, 1) := by decide +kernel
theorem dX10_field_14 : decode cX10_field 14 = .ok (.ireturn, 1) := by decide +kernel
theorem dX10_textAt_0 : decode cX10_textAt 0 = .ok (.sipush 290, 3) := by decide +kernel
theorem dX10_textAt_3 : decode cX10_textAt 3 = .ok (.sipush 200, 3) := by decide +kernel
theorem dX10_textAt_6 : decode cX10_textAt 6 = .ok (.iload_n 1, 1) := by decide +kernel
theorem dX10_textAt_7 : decode cX10_textAt 7 = .ok (.imul, 1) := by decide +kernel
theorem dX10_textAt_8 : decode cX10_textAt 8 = .ok (.iadd, 1) := by decide +kernel
theorem dX10_textAt_9 : decode cX10_textAt 9 = .ok (.ireturn, 1) := by decide +kernel
theorem dX10_isMark_0 : decode cX10_isMark 0 = .ok (.iload_n 1, 1) := by decide +kernel
theorem dX10_isMark_1 : decode cX10_isMark 1 = .ok (.i2l, 1) := by decide +kernel
theorem dX10_isMark_2 : decode cX10_isMark 2 = .ok (.lconst 0, 1) := by decide +kernel
theorem dX10_isMark_3 : decode cX10_isMark 3 = .ok (.aload_n 0, 1) := by decide +kernel
theorem dX10_isMark_4 : decode cX10_isMark 4 = .ok (.getfield 7, 3) := by decide +kernel
theorem dX10_isMark_7 : decode cX10_isMark 7 = .ok (.iconst 0, 1) := by decide +kernel
theorem dX10_isMark_8 : decode cX10_isMark 8 = .ok (.iaload, 1) := by decide +kernel
theorem dX10_isMark_9 : decode cX10_isMark 9 = .ok (.iconst 1, 1) := by decide +kernel
theorem dX10_isMark_10 : decode cX10_isMark 10 = .ok (.isub, 1) := by decide +kernel
theorem dX10_isMark_11 : decode cX10_isMark 11 = .ok (.i2l, 1) := by decide +kernel
theorem dX10_isMark_12 : decode cX10_isMark 12 = .ok (.invokestatic 80, 3) := by decide +kernel
theorem dX10_isMark_15 : decode cX10_isMark 15 = .ok (.ireturn, 1) := by decide +kernel
theorem dX10_isCape_0 : decode cX10_isCape 0 = .ok (.iload_n 0, 1) := by decide +kernel
theorem dX10_isCape_1 : decode cX10_isCape 1 = .ok (.i2l, 1) := by decide +kernel
theorem dX10_isCape_2 : decode cX10_isCape 2 = .ok (.lconst 0, 1) := by decide +kernel
theorem dX10_isCape_3 : decode cX10_isCape 3 = .ok (.ldc2_w 84, 3) := by decide +kernel
theorem dX10_isCape_6 : decode cX10_isCape 6 = .ok (.invokestatic 80, 3) := by decide +kernel
theorem dX10_isCape_9 : decode cX10_isCape 9 = .ok (.ireturn, 1) := by decide +kernel
theorem dX10_isVoyage_0 : decode cX10_isVoyage 0 = .ok (.iload_n 0, 1) := by decide +kernel
theorem dX10_isVoyage_1 : decode cX10_isVoyage 1 = .ok (.i2l, 1) := by decide +kernel
theorem dX10_isVoyage_2 : decode cX10_isVoyage 2 = .ok (.lconst 0, 1) := by decide +kernel
theorem dX10_isVoyage_3 : decode cX10_isVoyage 3 = .ok (.ldc2_w 86, 3) := by decide +kernel
theorem dX10_isVoyage_6 : decode cX10_isVoyage 6 = .ok (.invokestatic 80, 3) := by decide +kernel
theorem dX10_isVoyage_9 : decode cX10_isVoyage 9 = .ok (.ireturn, 1) := by decide +kernel
theorem dX10_isText_0 : decode cX10_isText 0 = .ok (.iload_n 1, 1) := by decide +kernel
theorem dX10_isText_1 : decode cX10_isText 1 = .ok (.i2l, 1) := by decide +kernel
theorem dX10_isText_2 : decode cX10_isText 2 = .ok (.lconst 0, 1) := by decide +kernel
theorem dX10_isText_3 : decode cX10_isText 3 = .ok (.aload_n 0, 1) := by decide +kernel
theorem dX10_isText_4 : decode cX10_isText 4 = .ok (.getfield 7, 3) := by decide +kernel
theorem dX10_isText_7 : decode cX10_isText 7 = .ok (.iconst 1, 1) := by decide +kernel
theorem dX10_isText_8 : decode cX10_isText 8 = .ok (.iaload, 1) := by decide +kernel
theorem dX10_isText_9 : decode cX10_isText 9 = .ok (.iconst 1, 1) := by decide +kernel
theorem dX10_isText_10 : decode cX10_isText 10 = .ok (.isub, 1) := by decide +kernel
theorem dX10_isText_11 : decode cX10_isText 11 = .ok (.i2l, 1) := by decide +kernel
theorem dX10_isText_12 : decode cX10_isText 12 = .ok (.invokestatic 80, 3) := by decide +kernel
theorem dX10_isText_15 : decode cX10_isText 15 = .ok (.ireturn, 1) := by decide +kernel
theorem dX10_add_0 : decode cX10_add 0 = .ok (.aload_n 0, 1) := by decide +kernel
theorem dX10_add_1 : decode cX10_add 1 = .ok (.aload_n 0, 1) := by decide +kernel
theorem dX10_add_2 : decode cX10_add 2 = .ok (.getfield 7, 3) := by decide +kernel
theorem dX10_add_5 : decode cX10_add 5 = .ok (.iconst 0, 1) := by decide +kernel
theorem dX10_add_6 : decode cX10_add 6 = .ok (.iaload, 1) := by decide +kernel
theorem dX10_add_7 : decode cX10_add 7 = .ok (.invokevirtual 88, 3) := by decide +kernel
theorem dX10_add_10 : decode cX10_add 10 = .ok (.istore 5, 2) := by decide +kernel
theorem dX10_add_12 : decode cX10_add 12 = .ok (.aload_n 0, 1) := by decide +kernel
theorem dX10_add_13 : decode cX10_add 13 = .ok (.getfield 7, 3) := by decide +kernel
theorem dX10_add_16 : decode cX10_add 16 = .ok (.iload 5, 2) := by decide +kernel
theorem dX10_add_18 : decode cX10_add 18 = .ok (.iload_n 1, 1) := by decide +kernel
theorem dX10_add_19 : decode cX10_add 19 = .ok (.iastore, 1) := by decide +kernel
theorem dX10_add_20 : decode cX10_add 20 = .ok (.aload_n 0, 1) := by decide +kernel
theorem dX10_add_21 : decode cX10_add 21 = .ok (.getfield 7, 3) := by decide +kernel
theorem dX10_add_24 : decode cX10_add 24 = .ok (.iload 5, 2) := by decide +kernel
theorem dX10_add_26 : decode cX10_add 26 = .ok (.iconst 1, 1) := by decide +kernel
theorem dX10_add_27 : decode cX10_add 27 = .ok (.iadd, 1) := by decide +kernel
theorem dX10_add_28 : decode cX10_add 28 = .ok (.iload_n 2, 1) := by decide +kernel
theorem dX10_add_29 : decode cX10_add 29 = .ok (.bipush 100, 2) := by decide +kernel
theorem dX10_add_31 : decode cX10_add 31 = .ok (.idiv, 1) := by decide +kernel
theorem dX10_add_32 : decode cX10_add 32 = .ok (.iastore, 1) := by decide +kernel
theorem dX10_add_33 : decode cX10_add 33 = .ok (.aload_n 0, 1) := by decide +kernel
theorem dX10_add_34 : decode cX10_add 34 = .ok (.getfield 7, 3) := by decide +kernel
theorem dX10_add_37 : decode cX10_add 37 = .ok (.iload 5, 2) := by decide +kernel
theorem dX10_add_39 : decode cX10_add 39 = .ok (.iconst 2, 1) := by decide +kernel
theorem dX10_add_40 : decode cX10_add 40 = .ok (.iadd, 1) := by decide +kernel
theorem dX10_add_41 : decode cX10_add 41 = .ok (.iload_n 2, 1) := by decide +kernel
theorem dX10_add_42 : decode cX10_add 42 = .ok (.bipush 100, 2) := by decide +kernel
theorem dX10_add_44 : decode cX10_add 44 = .ok (.irem, 1) := by decide +kernel
theorem dX10_add_45 : decode cX10_add 45 = .ok (.iastore, 1) := by decide +kernel
theorem dX10_add_46 : decode cX10_add 46 = .ok (.aload_n 0, 1) := by decide +kernel
theorem dX10_add_47 : decode cX10_add 47 = .ok (.getfield 7, 3) := by decide +kernel
theorem dX10_add_50 : decode cX10_add 50 = .ok (.iload 5, 2) := by decide +kernel
theorem dX10_add_52 : decode cX10_add 52 = .ok (.iconst 3, 1) := by decide +kernel
theorem dX10_add_53 : decode cX10_add 53 = .ok (.iadd, 1) := by decide +kernel
theorem dX10_add_54 : decode cX10_add 54 = .ok (.iload_n 3, 1) := by decide +kernel
theorem dX10_add_55 : decode cX10_add 55 = .ok (.iastore, 1) := by decide +kernel
theorem dX10_add_56 : decode cX10_add 56 = .ok (.aload_n 0, 1) := by decide +kernel
theorem dX10_add_57 : decode cX10_add 57 = .ok (.getfield 7, 3) := by decide +kernel
theorem dX10_add_60 : decode cX10_add 60 = .ok (.iload 5, 2) := by decide +kernel
theorem dX10_add_62 : decode cX10_add 62 = .ok (.iconst 4, 1) := by decide +kernel
theorem dX10_add_63 : decode cX10_add 63 = .ok (.iadd, 1) := by decide +kernel
theorem dX10_add_64 : decode cX10_add 64 = .ok (.iload 4, 2) := by decide +kernel
theorem dX10_add_66 : decode cX10_add 66 = .ok (.iastore, 1) := by decide +kernel
theorem dX10_add_67 : decode cX10_add 67 = .ok (.aload_n 0, 1) := by decide +kernel
theorem dX10_add_68 : decode cX10_add 68 = .ok (.getfield 7, 3) := by decide +kernel
theorem dX10_add_71 : decode cX10_add 71 = .ok (.iload 5, 2) := by decide +kernel
theorem dX10_add_73 : decode cX10_add 73 = .ok (.iconst 5, 1) := by decide +kernel
theorem dX10_add_74 : decode cX10_add 74 = .ok (.iadd, 1) := by decide +kernel
theorem dX10_add_75 : decode cX10_add 75 = .ok (.iconst (-1), 1) := by decide +kernel
theorem dX10_add_76 : decode cX10_add 76 = .ok (.iastore, 1) := by decide +kernel
theorem dX10_add_77 : decode cX10_add 77 = .ok (.aload_n 0, 1) := by decide +kernel
theorem dX10_add_78 : decode cX10_add 78 = .ok (.getfield 7, 3) := by decide +kernel
theorem dX10_add_81 : decode cX10_add 81 = .ok (.iload 5, 2) := by decide +kernel
theorem dX10_add_83 : decode cX10_add 83 = .ok (.bipush 6, 2) := by decide +kernel
theorem dX10_add_85 : decode cX10_add 85 = .ok (.iadd, 1) := by decide +kernel
theorem dX10_add_86 : decode cX10_add 86 = .ok (.iconst (-1), 1) := by decide +kernel
theorem dX10_add_87 : decode cX10_add 87 = .ok (.iastore, 1) := by decide +kernel
theorem dX10_add_88 : decode cX10_add 88 = .ok (.aload_n 0, 1) := by decide +kernel
theorem dX10_add_89 : decode cX10_add 89 = .ok (.getfield 7, 3) := by decide +kernel
theorem dX10_add_92 : decode cX10_add 92 = .ok (.iconst 0, 1) := by decide +kernel
theorem dX10_add_93 : decode cX10_add 93 = .ok (.dup2, 1) := by decide +kernel
theorem dX10_add_94 : decode cX10_add 94 = .ok (.iaload, 1) := by decide +kernel
theorem dX10_add_95 : decode cX10_add 95 = .ok (.iconst 1, 1) := by decide +kernel
theorem dX10_add_96 : decode cX10_add 96 = .ok (.iadd, 1) := by decide +kernel
theorem dX10_add_97 : decode cX10_add 97 = .ok (.iastore, 1) := by decide +kernel
theorem dX10_add_98 : decode cX10_add 98 = .ok (.aload_n 0, 1) := by decide +kernel
theorem dX10_add_99 : decode cX10_add 99 = .ok (.getfield 7, 3) := by decide +kernel
theorem dX10_add_102 : decode cX10_add 102 = .ok (.iconst 0, 1) := by decide +kernel
theorem dX10_add_103 : decode cX10_add 103 = .ok (.iaload, 1) := by decide +kernel
theorem dX10_add_104 : decode cX10_add 104 = .ok (.iconst 1, 1) := by decide +kernel
theorem dX10_add_105 : decode cX10_add 105 = .ok (.isub, 1) := by decide +kernel
theorem dX10_add_106 : decode cX10_add 106 = .ok (.ireturn, 1) := by decide +kernel
theorem dX10_mark_0 : decode cX10_mark 0 = .ok (.iload_n 1, 1) := by decide +kernel
theorem dX10_mark_1 : decode cX10_mark 1 = .ok (.i2l, 1) := by decide +kernel
theorem dX10_mark_2 : decode cX10_mark 2 = .ok (.lconst 0, 1) := by decide +kernel
theorem dX10_mark_3 : decode cX10_mark 3 = .ok (.ldc2_w 92, 3) := by decide +kernel
theorem dX10_mark_6 : decode cX10_mark 6 = .ok (.invokestatic 80, 3) := by decide +kernel
theorem dX10_mark_9 : decode cX10_mark 9 = .ok (.ifCond .eq 42, 3) := by decide +kernel
theorem dX10_mark_12 : decode cX10_mark 12 = .ok (.iload_n 2, 1) := by decide +kernel
theorem dX10_mark_13 : decode cX10_mark 13 = .ok (.i2l, 1) := by decide +kernel
theorem dX10_mark_14 : decode cX10_mark 14 = .ok (.lconst 0, 1) := by decide +kernel
theorem dX10_mark_15 : decode cX10_mark 15 = .ok (.ldc2_w 94, 3) := by decide +kernel
theorem dX10_mark_18 : decode cX10_mark 18 = .ok (.invokestatic 80, 3) := by decide +kernel
theorem dX10_mark_21 : decode cX10_mark 21 = .ok (.ifCond .eq 30, 3) := by decide +kernel
theorem dX10_mark_24 : decode cX10_mark 24 = .ok (.iload_n 3, 1) := by decide +kernel
theorem dX10_mark_25 : decode cX10_mark 25 = .ok (.i2l, 1) := by decide +kernel
theorem dX10_mark_26 : decode cX10_mark 26 = .ok (.lconst 0, 1) := by decide +kernel
theorem dX10_mark_27 : decode cX10_mark 27 = .ok (.ldc2_w 96, 3) := by decide +kernel
theorem dX10_mark_30 : decode cX10_mark 30 = .ok (.invokestatic 80, 3) := by decide +kernel
theorem dX10_mark_33 : decode cX10_mark 33 = .ok (.ifCond .eq 18, 3) := by decide +kernel
theorem dX10_mark_36 : decode cX10_mark 36 = .ok (.iload 4, 2) := by decide +kernel
theorem dX10_mark_38 : decode cX10_mark 38 = .ok (.i2l, 1) := by decide +kernel
theorem dX10_mark_39 : decode cX10_mark 39 = .ok (.ldc2_w 98, 3) := by decide +kernel
theorem dX10_mark_42 : decode cX10_mark 42 = .ok (.ldc2_w 100, 3) := by decide +kernel
theorem dX10_mark_45 : decode cX10_mark 45 = .ok (.invokestatic 80, 3) := by decide +kernel
theorem dX10_mark_48 : decode cX10_mark 48 = .ok (.ifCond .ne 6, 3) := by decide +kernel
theorem dX10_mark_51 : decode cX10_mark 51 = .ok (.ldc 102, 2) := by decide +kernel
theorem dX10_mark_53 : decode cX10_mark 53 = .ok (.ireturn, 1) := by decide +kernel
theorem dX10_mark_54 : decode cX10_mark 54 = .ok (.aload_n 0, 1) := by decide +kernel
theorem dX10_mark_55 : decode cX10_mark 55 = .ok (.getfield 7, 3) := by decide +kernel
theorem dX10_mark_58 : decode cX10_mark 58 = .ok (.iconst 0, 1) := by decide +kernel
theorem dX10_mark_59 : decode cX10_mark 59 = .ok (.iaload, 1) := by decide +kernel
theorem dX10_mark_60 : decode cX10_mark 60 = .ok (.bipush 24, 2) := by decide +kernel
theorem dX10_mark_62 : decode cX10_mark 62 = .ok (.if_icmp .ne 8, 3) := by decide +kernel
theorem dX10_mark_65 : decode cX10_mark 65 = .ok (.ldc 103, 2) := by decide +kernel
theorem dX10_mark_67 : decode cX10_mark 67 = .ok (.goto 12, 3) := by decide +kernel
theorem dX10_mark_70 : decode cX10_mark 70 = .ok (.aload_n 0, 1) := by decide +kernel
theorem dX10_mark_71 : decode cX10_mark 71 = .ok (.iload_n 1, 1) := by decide +kernel
theorem dX10_mark_72 : decode cX10_mark 72 = .ok (.iload_n 2, 1) := by decide +kernel
theorem dX10_mark_73 : decode cX10_mark 73 = .ok (.iload_n 3, 1) := by decide +kernel
theorem dX10_mark_74 : decode cX10_mark 74 = .ok (.iload 4, 2) := by decide +kernel
theorem dX10_mark_76 : decode cX10_mark 76 = .ok (.invokevirtual 104, 3) := by decide +kernel
theorem dX10_mark_79 : decode cX10_mark 79 = .ok (.ireturn, 1) := by decide +kernel
theorem dX10_counts_0 : decode cX10_counts 0 = .ok (.iconst (-1), 1) := by decide +kernel
theorem dX10_counts_1 : decode cX10_counts 1 = .ok (.istore_n 3, 1) := by decide +kernel
theorem dX10_counts_2 : decode cX10_counts 2 = .ok (.iconst 0, 1) := by decide +kernel
theorem dX10_counts_3 : decode cX10_counts 3 = .ok (.istore 4, 2) := by decide +kernel
theorem dX10_counts_5 : decode cX10_counts 5 = .ok (.iload 4, 2) := by decide +kernel
theorem dX10_counts_7 : decode cX10_counts 7 = .ok (.aload_n 0, 1) := by decide +kernel
theorem dX10_counts_8 : decode cX10_counts 8 = .ok (.getfield 7, 3) := by decide +kernel
theorem dX10_counts_11 : decode cX10_counts 11 = .ok (.iconst 1, 1) := by decide +kernel
theorem dX10_counts_12 : decode cX10_counts 12 = .ok (.iaload, 1) := by decide +kernel
theorem dX10_counts_13 : decode cX10_counts 13 = .ok (.if_icmp .ge 35, 3) := by decide +kernel
theorem dX10_counts_16 : decode cX10_counts 16 = .ok (.aload_n 0, 1) := by decide +kernel
theorem dX10_counts_17 : decode cX10_counts 17 = .ok (.getfield 7, 3) := by decide +kernel
theorem dX10_counts_20 : decode cX10_counts 20 = .ok (.aload_n 0, 1) := by decide +kernel
theorem dX10_counts_21 : decode cX10_counts 21 = .ok (.iload 4, 2) := by decide +kernel
theorem dX10_counts_23 : decode cX10_counts 23 = .ok (.invokevirtual 108, 3) := by decide +kernel
theorem dX10_counts_26 : decode cX10_counts 26 = .ok (.iaload, 1) := by decide +kernel
theorem dX10_counts_27 : decode cX10_counts 27 = .ok (.iconst 3, 1) := by decide +kernel
theorem dX10_counts_28 : decode cX10_counts 28 = .ok (.iload_n 2, 1) := by decide +kernel
theorem dX10_counts_29 : decode cX10_counts 29 = .ok (.imul, 1) := by decide +kernel
theorem dX10_counts_30 : decode cX10_counts 30 = .ok (.iload_n 1, 1) := by decide +kernel
theorem dX10_counts_31 : decode cX10_counts 31 = .ok (.iadd, 1) := by decide +kernel
theorem dX10_counts_32 : decode cX10_counts 32 = .ok (.if_icmp .ne 8, 3) := by decide +kernel
theorem dX10_counts_35 : decode cX10_counts 35 = .ok (.iload 4, 2) := by decide +kernel
theorem dX10_counts_37 : decode cX10_counts 37 = .ok (.goto 4, 3) := by decide +kernel
theorem dX10_counts_40 : decode cX10_counts 40 = .ok (.iload_n 3, 1) := by decide +kernel
theorem dX10_counts_41 : decode cX10_counts 41 = .ok (.istore_n 3, 1) := by decide +kernel
theorem dX10_counts_42 : decode cX10_counts 42 = .ok (.iinc 4 1, 3) := by decide +kernel
theorem dX10_counts_45 : decode cX10_counts 45 = .ok (.goto (-40), 3) := by decide +kernel
theorem dX10_counts_48 : decode cX10_counts 48 = .ok (.iload_n 3, 1) := by decide +kernel
theorem dX10_counts_49 : decode cX10_counts 49 = .ok (.ireturn, 1) := by decide +kernel
theorem dX10_byLaw_0 : decode cX10_byLaw 0 = .ok (.aload_n 0, 1) := by decide +kernel
theorem dX10_byLaw_1 : decode cX10_byLaw 1 = .ok (.aload_n 0, 1) := by decide +kernel
theorem dX10_byLaw_2 : decode cX10_byLaw 2 = .ok (.iload_n 1, 1) := by decide +kernel
theorem dX10_byLaw_3 : decode cX10_byLaw 3 = .ok (.iconst 1, 1) := by decide +kernel
theorem dX10_byLaw_4 : decode cX10_byLaw 4 = .ok (.invokevirtual 111, 3) := by decide +kernel
theorem dX10_byLaw_7 : decode cX10_byLaw 7 = .ok (.iload_n 2, 1) := by decide +kernel
theorem dX10_byLaw_8 : decode cX10_byLaw 8 = .ok (.invokevirtual 115, 3) := by decide +kernel
theorem dX10_byLaw_11 : decode cX10_byLaw 11 = .ok (.istore 4, 2) := by decide +kernel
theorem dX10_byLaw_13 : decode cX10_byLaw 13 = .ok (.aload_n 0, 1) := by decide +kernel
theorem dX10_byLaw_14 : decode cX10_byLaw 14 = .ok (.getfield 46, 3) := by decide +kernel
theorem dX10_byLaw_17 : decode cX10_byLaw 17 = .ok (.bipush 100, 2) := by decide +kernel
theorem dX10_byLaw_19 : decode cX10_byLaw 19 = .ok (.aload_n 0, 1) := by decide +kernel
theorem dX10_byLaw_20 : decode cX10_byLaw 20 = .ok (.iload_n 1, 1) := by decide +kernel
theorem dX10_byLaw_21 : decode cX10_byLaw 21 = .ok (.iconst 2, 1) := by decide +kernel
theorem dX10_byLaw_22 : decode cX10_byLaw 22 = .ok (.invokevirtual 111, 3) := by decide +kernel
theorem dX10_byLaw_25 : decode cX10_byLaw 25 = .ok (.iastore, 1) := by decide +kernel
theorem dX10_byLaw_26 : decode cX10_byLaw 26 = .ok (.aload_n 0, 1) := by decide +kernel
theorem dX10_byLaw_27 : decode cX10_byLaw 27 = .ok (.getfield 46, 3) := by decide +kernel
theorem dX10_byLaw_30 : decode cX10_byLaw 30 = .ok (.bipush 97, 2) := by decide +kernel
theorem dX10_byLaw_32 : decode cX10_byLaw 32 = .ok (.aload_n 0, 1) := by decide +kernel
theorem dX10_byLaw_33 : decode cX10_byLaw 33 = .ok (.iload_n 1, 1) := by decide +kernel
theorem dX10_byLaw_34 : decode cX10_byLaw 34 = .ok (.iconst 3, 1) := by decide +kernel
theorem dX10_byLaw_35 : decode cX10_byLaw 35 = .ok (.invokevirtual 111, 3) := by decide +kernel
theorem dX10_byLaw_38 : decode cX10_byLaw 38 = .ok (.iastore, 1) := by decide +kernel
theorem dX10_byLaw_39 : decode cX10_byLaw 39 = .ok (.aload_n 0, 1) := by decide +kernel
theorem dX10_byLaw_40 : decode cX10_byLaw 40 = .ok (.getfield 46, 3) := by decide +kernel
theorem dX10_byLaw_43 : decode cX10_byLaw 43 = .ok (.bipush 111, 2) := by decide +kernel
theorem dX10_byLaw_45 : decode cX10_byLaw 45 = .ok (.aload_n 0, 1) := by decide +kernel
theorem dX10_byLaw_46 : decode cX10_byLaw 46 = .ok (.iload_n 1, 1) := by decide +kernel
theorem dX10_byLaw_47 : decode cX10_byLaw 47 = .ok (.iconst 4, 1) := by decide +kernel
theorem dX10_byLaw_48 : decode cX10_byLaw 48 = .ok (.invokevirtual 111, 3) := by decide +kernel
theorem dX10_byLaw_51 : decode cX10_byLaw 51 = .ok (.iastore, 1) := by decide +kernel
theorem dX10_byLaw_52 : decode cX10_byLaw 52 = .ok (.iload 4, 2) := by decide +kernel
theorem dX10_byLaw_54 : decode cX10_byLaw 54 = .ok (.ifCond .ge 7, 3) := by decide +kernel
theorem dX10_byLaw_57 : decode cX10_byLaw 57 = .ok (.iload_n 3, 1) := by decide +kernel
theorem dX10_byLaw_58 : decode cX10_byLaw 58 = .ok (.goto 9, 3) := by decide +kernel
theorem dX10_byLaw_61 : decode cX10_byLaw 61 = .ok (.aload_n 0, 1) := by decide +kernel
theorem dX10_byLaw_62 : decode cX10_byLaw 62 = .ok (.iload 4, 2) := by decide +kernel
theorem dX10_byLaw_64 : decode cX10_byLaw 64 = .ok (.invokevirtual 118, 3) := by decide +kernel
theorem dX10_byLaw_67 : decode cX10_byLaw 67 = .ok (.ireturn, 1) := by decide +kernel
theorem dX10_logOf_0 : decode cX10_logOf 0 = .ok (.aload_n 0, 1) := by decide +kernel
theorem dX10_logOf_1 : decode cX10_logOf 1 = .ok (.iload_n 1, 1) := by decide +kernel
theorem dX10_logOf_2 : decode cX10_logOf 2 = .ok (.iconst 0, 1) := by decide +kernel
theorem dX10_logOf_3 : decode cX10_logOf 3 = .ok (.bipush 100, 2) := by decide +kernel
theorem dX10_logOf_5 : decode cX10_logOf 5 = .ok (.invokevirtual 121, 3) := by decide +kernel
theorem dX10_logOf_8 : decode cX10_logOf 8 = .ok (.i2l, 1) := by decide +kernel
theorem dX10_logOf_9 : decode cX10_logOf 9 = .ok (.iconst 1, 1) := by decide +kernel
theorem dX10_logOf_10 : decode cX10_logOf 10 = .ok (.sipush 400, 3) := by decide +kernel
theorem dX10_logOf_13 : decode cX10_logOf 13 = .ok (.invokestatic 125, 3) := by decide +kernel
theorem dX10_logOf_16 : decode cX10_logOf 16 = .ok (.ireturn, 1) := by decide +kernel
theorem dX10_needleOf_0 : decode cX10_needleOf 0 = .ok (.aload_n 0, 1) := by decide +kernel
theorem dX10_needleOf_1 : decode cX10_needleOf 1 = .ok (.iload_n 1, 1) := by decide +kernel
theorem dX10_needleOf_2 : decode cX10_needleOf 2 = .ok (.iconst 1, 1) := by decide +kernel
theorem dX10_needleOf_3 : decode cX10_needleOf 3 = .ok (.iconst 0, 1) := by decide +kernel
theorem dX10_needleOf_4 : decode cX10_needleOf 4 = .ok (.invokevirtual 121, 3) := by decide +kernel
theorem dX10_needleOf_7 : decode cX10_needleOf 7 = .ok (.i2l, 1) := by decide +kernel
theorem dX10_needleOf_8 : decode cX10_needleOf 8 = .ok (.sipush (-200), 3) := by decide +kernel
theorem dX10_needleOf_11 : decode cX10_needleOf 11 = .ok (.sipush 200, 3) := by decide +kernel
theorem dX10_needleOf_14 : decode cX10_needleOf 14 = .ok (.invokestatic 125, 3) := by decide +kernel
theorem dX10_needleOf_17 : decode cX10_needleOf 17 = .ok (.ireturn, 1) := by decide +kernel
theorem dX10_watchOf_0 : decode cX10_watchOf 0 = .ok (.bipush 10, 2) := by decide +kernel
theorem dX10_watchOf_2 : decode cX10_watchOf 2 = .ok (.iconst 3, 1) := by decide +kernel
theorem dX10_watchOf_3 : decode cX10_watchOf 3 = .ok (.aload_n 0, 1) := by decide +kernel
theorem dX10_watchOf_4 : decode cX10_watchOf 4 = .ok (.iload_n 1, 1) := by decide +kernel
theorem dX10_watchOf_5 : decode cX10_watchOf 5 = .ok (.iconst 1, 1) := by decide +kernel
theorem dX10_watchOf_6 : decode cX10_watchOf 6 = .ok (.invokevirtual 111, 3) := by decide +kernel
theorem dX10_watchOf_9 : decode cX10_watchOf 9 = .ok (.imul, 1) := by decide +kernel
theorem dX10_watchOf_10 : decode cX10_watchOf 10 = .ok (.iadd, 1) := by decide +kernel
theorem dX10_watchOf_11 : decode cX10_watchOf 11 = .ok (.istore_n 2, 1) := by decide +kernel
theorem dX10_watchOf_12 : decode cX10_watchOf 12 = .ok (.aload_n 0, 1) := by decide +kernel
theorem dX10_watchOf_13 : decode cX10_watchOf 13 = .ok (.getfield 7, 3) := by decide +kernel
theorem dX10_watchOf_16 : decode cX10_watchOf 16 = .ok (.iload_n 2, 1) := by decide +kernel
theorem dX10_watchOf_17 : decode cX10_watchOf 17 = .ok (.iaload, 1) := by decide +kernel
theorem dX10_watchOf_18 : decode cX10_watchOf 18 = .ok (.iconst 1, 1) := by decide +kernel
theorem dX10_watchOf_19 : decode cX10_watchOf 19 = .ok (.if_icmp .ne 31, 3) := by decide +kernel
theorem dX10_watchOf_22 : decode cX10_watchOf 22 = .ok (.aload_n 0, 1) := by decide +kernel
theorem dX10_watchOf_23 : decode cX10_watchOf 23 = .ok (.iload_n 1, 1) := by decide +kernel
theorem dX10_watchOf_24 : decode cX10_watchOf 24 = .ok (.iconst 2, 1) := by decide +kernel
theorem dX10_watchOf_25 : decode cX10_watchOf 25 = .ok (.invokevirtual 111, 3) := by decide +kernel
theorem dX10_watchOf_28 : decode cX10_watchOf 28 = .ok (.aload_n 0, 1) := by decide +kernel
theorem dX10_watchOf_29 : decode cX10_watchOf 29 = .ok (.getfield 7, 3) := by decide +kernel
theorem dX10_watchOf_32 : decode cX10_watchOf 32 = .ok (.iload_n 2, 1) := by decide +kernel
theorem dX10_watchOf_33 : decode cX10_watchOf 33 = .ok (.iconst 1, 1) := by decide +kernel
theorem dX10_watchOf_34 : decode cX10_watchOf 34 = .ok (.iadd, 1) := by decide +kernel
theorem dX10_watchOf_35 : decode cX10_watchOf 35 = .ok (.iaload, 1) := by decide +kernel
theorem dX10_watchOf_36 : decode cX10_watchOf 36 = .ok (.if_icmp .lt 14, 3) := by decide +kernel
theorem dX10_watchOf_39 : decode cX10_watchOf 39 = .ok (.aload_n 0, 1) := by decide +kernel
theorem dX10_watchOf_40 : decode cX10_watchOf 40 = .ok (.getfield 7, 3) := by decide +kernel
theorem dX10_watchOf_43 : decode cX10_watchOf 43 = .ok (.iload_n 2, 1) := by decide +kernel
theorem dX10_watchOf_44 : decode cX10_watchOf 44 = .ok (.iconst 2, 1) := by decide +kernel
theorem dX10_watchOf_45 : decode cX10_watchOf 45 = .ok (.iadd, 1) := by decide +kernel
theorem dX10_watchOf_46 : decode cX10_watchOf 46 = .ok (.iaload, 1) := by decide +kernel
theorem dX10_watchOf_47 : decode cX10_watchOf 47 = .ok (.goto 4, 3) := by decide +kernel
theorem dX10_watchOf_50 : decode cX10_watchOf 50 = .ok (.iconst 0, 1) := by decide +kernel
theorem dX10_watchOf_51 : decode cX10_watchOf 51 = .ok (.istore_n 3, 1) := by decide +kernel
theorem dX10_watchOf_52 : decode cX10_watchOf 52 = .ok (.aload_n 0, 1) := by decide +kernel
theorem dX10_watchOf_53 : decode cX10_watchOf 53 = .ok (.iload_n 1, 1) := by decide +kernel
theorem dX10_watchOf_54 : decode cX10_watchOf 54 = .ok (.iconst 2, 1) := by decide +kernel
theorem dX10_watchOf_55 : decode cX10_watchOf 55 = .ok (.iconst 0, 1) := by decide +kernel
theorem dX10_watchOf_56 : decode cX10_watchOf 56 = .ok (.invokevirtual 121, 3) := by decide +kernel
theorem dX10_watchOf_59 : decode cX10_watchOf 59 = .ok (.i2l, 1) := by decide +kernel
theorem dX10_watchOf_60 : decode cX10_watchOf 60 = .ok (.iload_n 3, 1) := by decide +kernel
theorem dX10_watchOf_61 : decode cX10_watchOf 61 = .ok (.i2l, 1) := by decide +kernel
theorem dX10_watchOf_62 : decode cX10_watchOf 62 = .ok (.ladd, 1) := by decide +kernel
theorem dX10_watchOf_63 : decode cX10_watchOf 63 = .ok (.sipush (-200), 3) := by decide +kernel
theorem dX10_watchOf_66 : decode cX10_watchOf 66 = .ok (.sipush 200, 3) := by decide +kernel
theorem dX10_watchOf_69 : decode cX10_watchOf 69 = .ok (.invokestatic 125, 3) := by decide +kernel
theorem dX10_watchOf_72 : decode cX10_watchOf 72 = .ok (.ireturn, 1) := by decide +kernel
theorem dX10_says_0 : decode cX10_says 0 = .ok (.aload_n 0, 1) := by decide +kernel
theorem dX10_says_1 : decode cX10_says 1 = .ok (.iload_n 1, 1) := by decide +kernel
theorem dX10_says_2 : decode cX10_says 2 = .ok (.iconst 3, 1) := by decide +kernel
theorem dX10_says_3 : decode cX10_says 3 = .ok (.invokevirtual 111, 3) := by decide +kernel
theorem dX10_says_6 : decode cX10_says 6 = .ok (.istore_n 2, 1) := by decide +kernel
theorem dX10_says_7 : decode cX10_says 7 = .ok (.iload_n 2, 1) := by decide +kernel
theorem dX10_says_8 : decode cX10_says 8 = .ok (.aload_n 0, 1) := by decide +kernel
theorem dX10_says_9 : decode cX10_says 9 = .ok (.iload_n 1, 1) := by decide +kernel
theorem dX10_says_10 : decode cX10_says 10 = .ok (.iconst 4, 1) := by decide +kernel
theorem dX10_says_11 : decode cX10_says 11 = .ok (.invokevirtual 111, 3) := by decide +kernel
theorem dX10_says_14 : decode cX10_says 14 = .ok (.bipush 10, 2) := by decide +kernel
theorem dX10_says_16 : decode cX10_says 16 = .ok (.idiv, 1) := by decide +kernel
theorem dX10_says_17 : decode cX10_says 17 = .ok (.iadd, 1) := by decide +kernel
theorem dX10_says_18 : decode cX10_says 18 = .ok (.istore_n 3, 1) := by decide +kernel
theorem dX10_says_19 : decode cX10_says 19 = .ok (.aload_n 0, 1) := by decide +kernel
theorem dX10_says_20 : decode cX10_says 20 = .ok (.iload_n 1, 1) := by decide +kernel
theorem dX10_says_21 : decode cX10_says 21 = .ok (.iconst 0, 1) := by decide +kernel
theorem dX10_says_22 : decode cX10_says 22 = .ok (.invokevirtual 111, 3) := by decide +kernel
theorem dX10_says_25 : decode cX10_says 25 = .ok (.tableswitch 90 1 7 #[43, 54, 62, 70, 72, 90, 78], 43) := by decide +kernel
theorem dX10_says_68 : decode cX10_says 68 = .ok (.iload_n 2, 1) := by decide +kernel
theorem dX10_says_69 : decode cX10_says 69 = .ok (.aload_n 0, 1) := by decide +kernel
theorem dX10_says_70 : decode cX10_says 70 = .ok (.iload_n 1, 1) := by decide +kernel
theorem dX10_says_71 : decode cX10_says 71 = .ok (.invokevirtual 129, 3) := by decide +kernel
theorem dX10_says_74 : decode cX10_says 74 = .ok (.imul, 1) := by decide +kernel
theorem dX10_says_75 : decode cX10_says 75 = .ok (.bipush 100, 2) := by decide +kernel
theorem dX10_says_77 : decode cX10_says 77 = .ok (.idiv, 1) := by decide +kernel
theorem dX10_says_78 : decode cX10_says 78 = .ok (.ireturn, 1) := by decide +kernel
theorem dX10_says_79 : decode cX10_says 79 = .ok (.iload_n 2, 1) := by decide +kernel
theorem dX10_says_80 : decode cX10_says 80 = .ok (.aload_n 0, 1) := by decide +kernel
theorem dX10_says_81 : decode cX10_says 81 = .ok (.iload_n 1, 1) := by decide +kernel
theorem dX10_says_82 : decode cX10_says 82 = .ok (.invokevirtual 132, 3) := by decide +kernel
theorem dX10_says_85 : decode cX10_says 85 = .ok (.iadd, 1) := by decide +kernel
theorem dX10_says_86 : decode cX10_says 86 = .ok (.ireturn, 1) := by decide +kernel
theorem dX10_says_87 : decode cX10_says 87 = .ok (.iload_n 2, 1) := by decide +kernel
theorem dX10_says_88 : decode cX10_says 88 = .ok (.aload_n 0, 1) := by decide +kernel
theorem dX10_says_89 : decode cX10_says 89 = .ok (.iload_n 1, 1) := by decide +kernel
theorem dX10_says_90 : decode cX10_says 90 = .ok (.invokevirtual 135, 3) := by decide +kernel
theorem dX10_says_93 : decode cX10_says 93 = .ok (.iadd, 1) := by decide +kernel
theorem dX10_says_94 : decode cX10_says 94 = .ok (.ireturn, 1) := by decide +kernel
theorem dX10_says_95 : decode cX10_says 95 = .ok (.iload_n 3, 1) := by decide +kernel
theorem dX10_says_96 : decode cX10_says 96 = .ok (.ireturn, 1) := by decide +kernel
theorem dX10_says_97 : decode cX10_says 97 = .ok (.iload_n 3, 1) := by decide +kernel
theorem dX10_says_98 : decode cX10_says 98 = .ok (.iconst 5, 1) := by decide +kernel
theorem dX10_says_99 : decode cX10_says 99 = .ok (.idiv, 1) := by decide +kernel
theorem dX10_says_100 : decode cX10_says 100 = .ok (.iconst 5, 1) := by decide +kernel
theorem dX10_says_101 : decode cX10_says 101 = .ok (.imul, 1) := by decide +kernel
theorem dX10_says_102 : decode cX10_says 102 = .ok (.ireturn, 1) := by decide +kernel
theorem dX10_says_103 : decode cX10_says 103 = .ok (.iload_n 3, 1) := by decide +kernel
theorem dX10_says_104 : decode cX10_says 104 = .ok (.aload_n 0, 1) := by decide +kernel
theorem dX10_says_105 : decode cX10_says 105 = .ok (.iload_n 1, 1) := by decide +kernel
theorem dX10_says_106 : decode cX10_says 106 = .ok (.iconst 4, 1) := by decide +kernel
theorem dX10_says_107 : decode cX10_says 107 = .ok (.invokevirtual 111, 3) := by decide +kernel
theorem dX10_says_110 : decode cX10_says 110 = .ok (.bipush 10, 2) := by decide +kernel
theorem dX10_says_112 : decode cX10_says 112 = .ok (.idiv, 1) := by decide +kernel
theorem dX10_says_113 : decode cX10_says 113 = .ok (.isub, 1) := by decide +kernel
theorem dX10_says_114 : decode cX10_says 114 = .ok (.ireturn, 1) := by decide +kernel
theorem dX10_says_115 : decode cX10_says 115 = .ok (.iload_n 2, 1) := by decide +kernel
theorem dX10_says_116 : decode cX10_says 116 = .ok (.ireturn, 1) := by decide +kernel
theorem dX10_spanOf_0 : decode cX10_spanOf 0 = .ok (.aload_n 0, 1) := by decide +kernel
theorem dX10_spanOf_1 : decode cX10_spanOf 1 = .ok (.iload_n 1, 1) := by decide +kernel
theorem dX10_spanOf_2 : decode cX10_spanOf 2 = .ok (.iconst 0, 1) := by decide +kernel
theorem dX10_spanOf_3 : decode cX10_spanOf 3 = .ok (.invokevirtual 111, 3) := by decide +kernel
theorem dX10_spanOf_6 : decode cX10_spanOf 6 = .ok (.tableswitch 78 1 7 #[42, 55, 58, 70, 73, 78, 76], 42) := by decide +kernel
theorem dX10_spanOf_48 : decode cX10_spanOf 48 = .ok (.bipush 10, 2) := by decide +kernel
theorem dX10_spanOf_50 : decode cX10_spanOf 50 = .ok (.aload_n 0, 1) := by decide +kernel
theorem dX10_spanOf_51 : decode cX10_spanOf 51 = .ok (.iload_n 1, 1) := by decide +kernel
theorem dX10_spanOf_52 : decode cX10_spanOf 52 = .ok (.iconst 3, 1) := by decide +kernel
theorem dX10_spanOf_53 : decode cX10_spanOf 53 = .ok (.invokevirtual 111, 3) := by decide +kernel
theorem dX10_spanOf_56 : decode cX10_spanOf 56 = .ok (.bipush 20, 2) := by decide +kernel
theorem dX10_spanOf_58 : decode cX10_spanOf 58 = .ok (.idiv, 1) := by decide +kernel
theorem dX10_spanOf_59 : decode cX10_spanOf 59 = .ok (.iadd, 1) := by decide +kernel
theorem dX10_spanOf_60 : decode cX10_spanOf 60 = .ok (.ireturn, 1) := by decide +kernel
theorem dX10_spanOf_61 : decode cX10_spanOf 61 = .ok (.bipush 15, 2) := by decide +kernel
theorem dX10_spanOf_63 : decode cX10_spanOf 63 = .ok (.ireturn, 1) := by decide +kernel
theorem dX10_spanOf_64 : decode cX10_spanOf 64 = .ok (.iconst 5, 1) := by decide +kernel
theorem dX10_spanOf_65 : decode cX10_spanOf 65 = .ok (.aload_n 0, 1) := by decide +kernel
theorem dX10_spanOf_66 : decode cX10_spanOf 66 = .ok (.iload_n 1, 1) := by decide +kernel
theorem dX10_spanOf_67 : decode cX10_spanOf 67 = .ok (.iconst 2, 1) := by decide +kernel
theorem dX10_spanOf_68 : decode cX10_spanOf 68 = .ok (.invokevirtual 111, 3) := by decide +kernel
theorem dX10_spanOf_71 : decode cX10_spanOf 71 = .ok (.bipush 10, 2) := by decide +kernel
theorem dX10_spanOf_73 : decode cX10_spanOf 73 = .ok (.idiv, 1) := by decide +kernel
theorem dX10_spanOf_74 : decode cX10_spanOf 74 = .ok (.iadd, 1) := by decide +kernel
theorem dX10_spanOf_75 : decode cX10_spanOf 75 = .ok (.ireturn, 1) := by decide +kernel
theorem dX10_spanOf_76 : decode cX10_spanOf 76 = .ok (.bipush 25, 2) := by decide +kernel
theorem dX10_spanOf_78 : decode cX10_spanOf 78 = .ok (.ireturn, 1) := by decide +kernel
theorem dX10_spanOf_79 : decode cX10_spanOf 79 = .ok (.bipush 35, 2) := by decide +kernel
theorem dX10_spanOf_81 : decode cX10_spanOf 81 = .ok (.ireturn, 1) := by decide +kernel
theorem dX10_spanOf_82 : decode cX10_spanOf 82 = .ok (.iconst 2, 1) := by decide +kernel
theorem dX10_spanOf_83 : decode cX10_spanOf 83 = .ok (.ireturn, 1) := by decide +kernel
theorem dX10_spanOf_84 : decode cX10_spanOf 84 = .ok (.bipush 20, 2) := by decide +kernel
theorem dX10_spanOf_86 : decode cX10_spanOf 86 = .ok (.ireturn, 1) := by decide +kernel
theorem dX10_worthOf_0 : decode cX10_worthOf 0 = .ok (.iload_n 0, 1) := by decide +kernel
theorem dX10_worthOf_1 : decode cX10_worthOf 1 = .ok (.tableswitch 44 3 7 #[35, 37, 37, 42, 39], 35) := by decide +kernel
theorem dX10_worthOf_36 : decode cX10_worthOf 36 = .ok (.iconst 5, 1) := by decide +kernel
theorem dX10_worthOf_37 : decode cX10_worthOf 37 = .ok (.ireturn, 1) := by decide +kernel
theorem dX10_worthOf_38 : decode cX10_worthOf 38 = .ok (.iconst 2, 1) := by decide +kernel
theorem dX10_worthOf_39 : decode cX10_worthOf 39 = .ok (.ireturn, 1) := by decide +kernel
theorem dX10_worthOf_40 : decode cX10_worthOf 40 = .ok (.bipush 8, 2) := by decide +kernel
theorem dX10_worthOf_42 : decode cX10_worthOf 42 = .ok (.ireturn, 1) := by decide +kernel
theorem dX10_worthOf_43 : decode cX10_worthOf 43 = .ok (.iconst 3, 1) := by decide +kernel
theorem dX10_worthOf_44 : decode cX10_worthOf 44 = .ok (.ireturn, 1) := by decide +kernel
theorem dX10_worthOf_45 : decode cX10_worthOf 45 = .ok (.iconst 1, 1) := by decide +kernel
theorem dX10_worthOf_46 : decode cX10_worthOf 46 = .ok (.ireturn, 1) := by decide +kernel
theorem dX10_told_0 : decode cX10_told 0 = .ok (.aload_n 0, 1) := by decide +kernel
theorem dX10_told_1 : decode cX10_told 1 = .ok (.iload_n 1, 1) := by decide +kernel
theorem dX10_told_2 : decode cX10_told 2 = .ok (.invokevirtual 138, 3) := by decide +kernel
theorem dX10_told_5 : decode cX10_told 5 = .ok (.ifCond .ne 6, 3) := by decide +kernel
theorem dX10_told_8 : decode cX10_told 8 = .ok (.ldc 102, 2) := by decide +kernel
theorem dX10_told_10 : decode cX10_told 10 = .ok (.ireturn, 1) := by decide +kernel
theorem dX10_told_11 : decode cX10_told 11 = .ok (.iload_n 2, 1) := by decide +kernel
theorem dX10_told_12 : decode cX10_told 12 = .ok (.tableswitch 136 0 12 #[68, 68, 68, 68, 68, 75, 85, 91, 97, 107, 118, 124, 130], 68) := by decide +kernel
theorem dX10_told_80 : decode cX10_told 80 = .ok (.aload_n 0, 1) := by decide +kernel
theorem dX10_told_81 : decode cX10_told 81 = .ok (.iload_n 1, 1) := by decide +kernel
theorem dX10_told_82 : decode cX10_told 82 = .ok (.iload_n 2, 1) := by decide +kernel
theorem dX10_told_83 : decode cX10_told 83 = .ok (.invokevirtual 111, 3) := by decide +kernel
theorem dX10_told_86 : decode cX10_told 86 = .ok (.ireturn, 1) := by decide +kernel
theorem dX10_told_87 : decode cX10_told 87 = .ok (.aload_n 0, 1) := by decide +kernel
theorem dX10_told_88 : decode cX10_told 88 = .ok (.iload_n 1, 1) := by decide +kernel
theorem dX10_told_89 : decode cX10_told 89 = .ok (.iconst 5, 1) := by decide +kernel
theorem dX10_told_90 : decode cX10_told 90 = .ok (.invokevirtual 111, 3) := by decide +kernel
theorem dX10_told_93 : decode cX10_told 93 = .ok (.invokestatic 142, 3) := by decide +kernel
theorem dX10_told_96 : decode cX10_told 96 = .ok (.ireturn, 1) := by decide +kernel
theorem dX10_told_97 : decode cX10_told 97 = .ok (.aload_n 0, 1) := by decide +kernel
theorem dX10_told_98 : decode cX10_told 98 = .ok (.iload_n 1, 1) := by decide +kernel
theorem dX10_told_99 : decode cX10_told 99 = .ok (.invokevirtual 145, 3) := by decide +kernel
theorem dX10_told_102 : decode cX10_told 102 = .ok (.ireturn, 1) := by decide +kernel
theorem dX10_told_103 : decode cX10_told 103 = .ok (.aload_n 0, 1) := by decide +kernel
theorem dX10_told_104 : decode cX10_told 104 = .ok (.iload_n 1, 1) := by decide +kernel
theorem dX10_told_105 : decode cX10_told 105 = .ok (.invokevirtual 148, 3) := by decide +kernel
theorem dX10_told_108 : decode cX10_told 108 = .ok (.ireturn, 1) := by decide +kernel
theorem dX10_told_109 : decode cX10_told 109 = .ok (.aload_n 0, 1) := by decide +kernel
theorem dX10_told_110 : decode cX10_told 110 = .ok (.iload_n 1, 1) := by decide +kernel
theorem dX10_told_111 : decode cX10_told 111 = .ok (.iconst 0, 1) := by decide +kernel
theorem dX10_told_112 : decode cX10_told 112 = .ok (.invokevirtual 111, 3) := by decide +kernel
theorem dX10_told_115 : decode cX10_told 115 = .ok (.invokestatic 151, 3) := by decide +kernel
theorem dX10_told_118 : decode cX10_told 118 = .ok (.ireturn, 1) := by decide +kernel
theorem dX10_told_119 : decode cX10_told 119 = .ok (.aload_n 0, 1) := by decide +kernel
theorem dX10_told_120 : decode cX10_told 120 = .ok (.iload_n 1, 1) := by decide +kernel
theorem dX10_told_121 : decode cX10_told 121 = .ok (.bipush 6, 2) := by decide +kernel
theorem dX10_told_123 : decode cX10_told 123 = .ok (.invokevirtual 111, 3) := by decide +kernel
theorem dX10_told_126 : decode cX10_told 126 = .ok (.invokestatic 142, 3) := by decide +kernel
theorem dX10_told_129 : decode cX10_told 129 = .ok (.ireturn, 1) := by decide +kernel
theorem dX10_told_130 : decode cX10_told 130 = .ok (.aload_n 0, 1) := by decide +kernel
theorem dX10_told_131 : decode cX10_told 131 = .ok (.iload_n 1, 1) := by decide +kernel
theorem dX10_told_132 : decode cX10_told 132 = .ok (.invokevirtual 129, 3) := by decide +kernel
theorem dX10_told_135 : decode cX10_told 135 = .ok (.ireturn, 1) := by decide +kernel
theorem dX10_told_136 : decode cX10_told 136 = .ok (.aload_n 0, 1) := by decide +kernel
theorem dX10_told_137 : decode cX10_told 137 = .ok (.iload_n 1, 1) := by decide +kernel
theorem dX10_told_138 : decode cX10_told 138 = .ok (.invokevirtual 132, 3) := by decide +kernel
theorem dX10_told_141 : decode cX10_told 141 = .ok (.ireturn, 1) := by decide +kernel
theorem dX10_told_142 : decode cX10_told 142 = .ok (.aload_n 0, 1) := by decide +kernel
theorem dX10_told_143 : decode cX10_told 143 = .ok (.iload_n 1, 1) := by decide +kernel
theorem dX10_told_144 : decode cX10_told 144 = .ok (.invokevirtual 135, 3) := by decide +kernel
theorem dX10_told_147 : decode cX10_told 147 = .ok (.ireturn, 1) := by decide +kernel
theorem dX10_told_148 : decode cX10_told 148 = .ok (.ldc 102, 2) := by decide +kernel
theorem dX10_told_150 : decode cX10_told 150 = .ok (.ireturn, 1) := by decide +kernel
theorem dX10_isOf_0 : decode cX10_isOf 0 = .ok (.iload_n 1, 1) := by decide +kernel
theorem dX10_isOf_1 : decode cX10_isOf 1 = .ok (.ifCond .eq 24, 3) := by decide +kernel
theorem dX10_isOf_4 : decode cX10_isOf 4 = .ok (.iload_n 0, 1) := by decide +kernel
theorem dX10_isOf_5 : decode cX10_isOf 5 = .ok (.iload_n 1, 1) := by decide +kernel
theorem dX10_isOf_6 : decode cX10_isOf 6 = .ok (.if_icmp .eq 19, 3) := by decide +kernel
theorem dX10_isOf_9 : decode cX10_isOf 9 = .ok (.iload_n 1, 1) := by decide +kernel
theorem dX10_isOf_10 : decode cX10_isOf 10 = .ok (.iconst 4, 1) := by decide +kernel
theorem dX10_isOf_11 : decode cX10_isOf 11 = .ok (.if_icmp .ne 18, 3) := by decide +kernel
theorem dX10_isOf_14 : decode cX10_isOf 14 = .ok (.iload_n 0, 1) := by decide +kernel
theorem dX10_isOf_15 : decode cX10_isOf 15 = .ok (.iconst 5, 1) := by decide +kernel
theorem dX10_isOf_16 : decode cX10_isOf 16 = .ok (.if_icmp .eq 9, 3) := by decide +kernel
theorem dX10_isOf_19 : decode cX10_isOf 19 = .ok (.iload_n 0, 1) := by decide +kernel
theorem dX10_isOf_20 : decode cX10_isOf 20 = .ok (.bipush 7, 2) := by decide +kernel
theorem dX10_isOf_22 : decode cX10_isOf 22 = .ok (.if_icmp .ne 7, 3) := by decide +kernel
theorem dX10_isOf_25 : decode cX10_isOf 25 = .ok (.iconst 1, 1) := by decide +kernel
theorem dX10_isOf_26 : decode cX10_isOf 26 = .ok (.goto 4, 3) := by decide +kernel
theorem dX10_isOf_29 : decode cX10_isOf 29 = .ok (.iconst 0, 1) := by decide +kernel
theorem dX10_isOf_30 : decode cX10_isOf 30 = .ok (.ireturn, 1) := by decide +kernel
theorem dX10_as_0 : decode cX10_as 0 = .ok (.aload_n 0, 1) := by decide +kernel
theorem dX10_as_1 : decode cX10_as 1 = .ok (.iload_n 1, 1) := by decide +kernel
theorem dX10_as_2 : decode cX10_as 2 = .ok (.invokevirtual 138, 3) := by decide +kernel
theorem dX10_as_5 : decode cX10_as 5 = .ok (.ifCond .eq 15, 3) := by decide +kernel
theorem dX10_as_8 : decode cX10_as 8 = .ok (.iload_n 2, 1) := by decide +kernel
theorem dX10_as_9 : decode cX10_as 9 = .ok (.i2l, 1) := by decide +kernel
theorem dX10_as_10 : decode cX10_as 10 = .ok (.lconst 0, 1) := by decide +kernel
theorem dX10_as_11 : decode cX10_as 11 = .ok (.ldc2_w 92, 3) := by decide +kernel
theorem dX10_as_14 : decode cX10_as 14 = .ok (.invokestatic 80, 3) := by decide +kernel
theorem dX10_as_17 : decode cX10_as 17 = .ok (.ifCond .ne 6, 3) := by decide +kernel
theorem dX10_as_20 : decode cX10_as 20 = .ok (.ldc 102, 2) := by decide +kernel
theorem dX10_as_22 : decode cX10_as 22 = .ok (.ireturn, 1) := by decide +kernel
theorem dX10_as_23 : decode cX10_as 23 = .ok (.aload_n 0, 1) := by decide +kernel
theorem dX10_as_24 : decode cX10_as 24 = .ok (.iload_n 1, 1) := by decide +kernel
theorem dX10_as_25 : decode cX10_as 25 = .ok (.iconst 0, 1) := by decide +kernel
theorem dX10_as_26 : decode cX10_as 26 = .ok (.invokevirtual 111, 3) := by decide +kernel
theorem dX10_as_29 : decode cX10_as 29 = .ok (.iload_n 2, 1) := by decide +kernel
theorem dX10_as_30 : decode cX10_as 30 = .ok (.invokestatic 154, 3) := by decide +kernel
theorem dX10_as_33 : decode cX10_as 33 = .ok (.ifCond .eq 12, 3) := by decide +kernel
theorem dX10_as_36 : decode cX10_as 36 = .ok (.aload_n 0, 1) := by decide +kernel
theorem dX10_as_37 : decode cX10_as 37 = .ok (.iload_n 1, 1) := by decide +kernel
theorem dX10_as_38 : decode cX10_as 38 = .ok (.iconst 3, 1) := by decide +kernel
theorem dX10_as_39 : decode cX10_as 39 = .ok (.invokevirtual 111, 3) := by decide +kernel
theorem dX10_as_42 : decode cX10_as 42 = .ok (.goto 5, 3) := by decide +kernel
theorem dX10_as_45 : decode cX10_as 45 = .ok (.ldc 158, 2) := by decide +kernel
theorem dX10_as_47 : decode cX10_as 47 = .ok (.ireturn, 1) := by decide +kernel
theorem dX10_put_0 : decode cX10_put 0 = .ok (.aload_n 0, 1) := by decide +kernel
theorem dX10_put_1 : decode cX10_put 1 = .ok (.iload_n 1, 1) := by decide +kernel
theorem dX10_put_2 : decode cX10_put 2 = .ok (.invokevirtual 138, 3) := by decide +kernel
theorem dX10_put_5 : decode cX10_put 5 = .ok (.ifCond .eq 35, 3) := by decide +kernel
theorem dX10_put_8 : decode cX10_put 8 = .ok (.iload_n 2, 1) := by decide +kernel
theorem dX10_put_9 : decode cX10_put 9 = .ok (.i2l, 1) := by decide +kernel
theorem dX10_put_10 : decode cX10_put 10 = .ok (.ldc2_w 159, 3) := by decide +kernel
theorem dX10_put_13 : decode cX10_put 13 = .ok (.ldc2_w 84, 3) := by decide +kernel
theorem dX10_put_16 : decode cX10_put 16 = .ok (.invokestatic 80, 3) := by decide +kernel
theorem dX10_put_19 : decode cX10_put 19 = .ok (.ifCond .eq 21, 3) := by decide +kernel
theorem dX10_put_22 : decode cX10_put 22 = .ok (.aload_n 0, 1) := by decide +kernel
theorem dX10_put_23 : decode cX10_put 23 = .ok (.aload_n 0, 1) := by decide +kernel
theorem dX10_put_24 : decode cX10_put 24 = .ok (.iload_n 1, 1) := by decide +kernel
theorem dX10_put_25 : decode cX10_put 25 = .ok (.invokevirtual 88, 3) := by decide +kernel
theorem dX10_put_28 : decode cX10_put 28 = .ok (.iconst 5, 1) := by decide +kernel
theorem dX10_put_29 : decode cX10_put 29 = .ok (.iadd, 1) := by decide +kernel
theorem dX10_put_30 : decode cX10_put 30 = .ok (.iload_n 2, 1) := by decide +kernel
theorem dX10_put_31 : decode cX10_put 31 = .ok (.invokevirtual 161, 3) := by decide +kernel
theorem dX10_put_34 : decode cX10_put 34 = .ok (.invokestatic 142, 3) := by decide +kernel
theorem dX10_put_37 : decode cX10_put 37 = .ok (.goto 5, 3) := by decide +kernel
theorem dX10_put_40 : decode cX10_put 40 = .ok (.ldc 102, 2) := by decide +kernel
theorem dX10_put_42 : decode cX10_put 42 = .ok (.ireturn, 1) := by decide +kernel
theorem dX10_name_0 : decode cX10_name 0 = .ok (.aload_n 0, 1) := by decide +kernel
theorem dX10_name_1 : decode cX10_name 1 = .ok (.iload_n 1, 1) := by decide +kernel
theorem dX10_name_2 : decode cX10_name 2 = .ok (.invokevirtual 138, 3) := by decide +kernel
theorem dX10_name_5 : decode cX10_name 5 = .ok (.ifCond .eq 15, 3) := by decide +kernel
theorem dX10_name_8 : decode cX10_name 8 = .ok (.iload_n 2, 1) := by decide +kernel
theorem dX10_name_9 : decode cX10_name 9 = .ok (.i2l, 1) := by decide +kernel
theorem dX10_name_10 : decode cX10_name 10 = .ok (.lconst 0, 1) := by decide +kernel
theorem dX10_name_11 : decode cX10_name 11 = .ok (.ldc2_w 164, 3) := by decide +kernel
theorem dX10_name_14 : decode cX10_name 14 = .ok (.invokestatic 80, 3) := by decide +kernel
theorem dX10_name_17 : decode cX10_name 17 = .ok (.ifCond .ne 6, 3) := by decide +kernel
theorem dX10_name_20 : decode cX10_name 20 = .ok (.ldc 102, 2) := by decide +kernel
theorem dX10_name_22 : decode cX10_name 22 = .ok (.ireturn, 1) := by decide +kernel
theorem dX10_name_23 : decode cX10_name 23 = .ok (.aload_n 0, 1) := by decide +kernel
theorem dX10_name_24 : decode cX10_name 24 = .ok (.iload_n 1, 1) := by decide +kernel
theorem dX10_name_25 : decode cX10_name 25 = .ok (.iconst 0, 1) := by decide +kernel
theorem dX10_name_26 : decode cX10_name 26 = .ok (.invokevirtual 111, 3) := by decide +kernel
theorem dX10_name_29 : decode cX10_name 29 = .ok (.bipush 6, 2) := by decide +kernel
theorem dX10_name_31 : decode cX10_name 31 = .ok (.if_icmp .ne 22, 3) := by decide +kernel
theorem dX10_name_34 : decode cX10_name 34 = .ok (.aload_n 0, 1) := by decide +kernel
theorem dX10_name_35 : decode cX10_name 35 = .ok (.aload_n 0, 1) := by decide +kernel
theorem dX10_name_36 : decode cX10_name 36 = .ok (.iload_n 1, 1) := by decide +kernel
theorem dX10_name_37 : decode cX10_name 37 = .ok (.invokevirtual 88, 3) := by decide +kernel
theorem dX10_name_40 : decode cX10_name 40 = .ok (.bipush 6, 2) := by decide +kernel
theorem dX10_name_42 : decode cX10_name 42 = .ok (.iadd, 1) := by decide +kernel
theorem dX10_name_43 : decode cX10_name 43 = .ok (.iload_n 2, 1) := by decide +kernel
theorem dX10_name_44 : decode cX10_name 44 = .ok (.invokevirtual 161, 3) := by decide +kernel
theorem dX10_name_47 : decode cX10_name 47 = .ok (.invokestatic 142, 3) := by decide +kernel
theorem dX10_name_50 : decode cX10_name 50 = .ok (.goto 5, 3) := by decide +kernel
theorem dX10_name_53 : decode cX10_name 53 = .ok (.ldc 158, 2) := by decide +kernel
theorem dX10_name_55 : decode cX10_name 55 = .ok (.ireturn, 1) := by decide +kernel
theorem dX10_feed_0 : decode cX10_feed 0 = .ok (.aload_n 0, 1) := by decide +kernel
theorem dX10_feed_1 : decode cX10_feed 1 = .ok (.getfield 166, 3) := by decide +kernel
theorem dX10_feed_4 : decode cX10_feed 4 = .ok (.bipush 12, 2) := by decide +kernel
theorem dX10_feed_6 : decode cX10_feed 6 = .ok (.iadd, 1) := by decide +kernel
theorem dX10_feed_7 : decode cX10_feed 7 = .ok (.bipush 96, 2) := by decide +kernel
theorem dX10_feed_9 : decode cX10_feed 9 = .ok (.if_icmp .le 6, 3) := by decide +kernel
theorem dX10_feed_12 : decode cX10_feed 12 = .ok (.ldc 103, 2) := by decide +kernel
theorem dX10_feed_14 : decode cX10_feed 14 = .ok (.ireturn, 1) := by decide +kernel
theorem dX10_feed_15 : decode cX10_feed 15 = .ok (.iconst 0, 1) := by decide +kernel
theorem dX10_feed_16 : decode cX10_feed 16 = .ok (.istore 4, 2) := by decide +kernel
theorem dX10_feed_18 : decode cX10_feed 18 = .ok (.iload 4, 2) := by decide +kernel
theorem dX10_feed_20 : decode cX10_feed 20 = .ok (.bipush 12, 2) := by decide +kernel
theorem dX10_feed_22 : decode cX10_feed 22 = .ok (.if_icmp .ge 69, 3) := by decide +kernel
theorem dX10_feed_25 : decode cX10_feed 25 = .ok (.iload 4, 2) := by decide +kernel
theorem dX10_feed_27 : decode cX10_feed 27 = .ok (.iconst 4, 1) := by decide +kernel
theorem dX10_feed_28 : decode cX10_feed 28 = .ok (.if_icmp .ge 7, 3) := by decide +kernel
theorem dX10_feed_31 : decode cX10_feed 31 = .ok (.iload_n 1, 1) := by decide +kernel
theorem dX10_feed_32 : decode cX10_feed 32 = .ok (.goto 15, 3) := by decide +kernel
theorem dX10_feed_35 : decode cX10_feed 35 = .ok (.iload 4, 2) := by decide +kernel
theorem dX10_feed_37 : decode cX10_feed 37 = .ok (.bipush 8, 2) := by decide +kernel
theorem dX10_feed_39 : decode cX10_feed 39 = .ok (.if_icmp .ge 7, 3) := by decide +kernel
theorem dX10_feed_42 : decode cX10_feed 42 = .ok (.iload_n 2, 1) := by decide +kernel
theorem dX10_feed_43 : decode cX10_feed 43 = .ok (.goto 4, 3) := by decide +kernel
theorem dX10_feed_46 : decode cX10_feed 46 = .ok (.iload_n 3, 1) := by decide +kernel
theorem dX10_feed_47 : decode cX10_feed 47 = .ok (.istore 5, 2) := by decide +kernel
theorem dX10_feed_49 : decode cX10_feed 49 = .ok (.aload_n 0, 1) := by decide +kernel
theorem dX10_feed_50 : decode cX10_feed 50 = .ok (.getfield 43, 3) := by decide +kernel
theorem dX10_feed_53 : decode cX10_feed 53 = .ok (.aload_n 0, 1) := by decide +kernel
theorem dX10_feed_54 : decode cX10_feed 54 = .ok (.getfield 166, 3) := by decide +kernel
theorem dX10_feed_57 : decode cX10_feed 57 = .ok (.iload 5, 2) := by decide +kernel
theorem dX10_feed_59 : decode cX10_feed 59 = .ok (.bipush 24, 2) := by decide +kernel
theorem dX10_feed_61 : decode cX10_feed 61 = .ok (.bipush 8, 2) := by decide +kernel
theorem dX10_feed_63 : decode cX10_feed 63 = .ok (.iload 4, 2) := by decide +kernel
theorem dX10_feed_65 : decode cX10_feed 65 = .ok (.iconst 4, 1) := by decide +kernel
theorem dX10_feed_66 : decode cX10_feed 66 = .ok (.irem, 1) := by decide +kernel
theorem dX10_feed_67 : decode cX10_feed 67 = .ok (.imul, 1) := by decide +kernel
theorem dX10_feed_68 : decode cX10_feed 68 = .ok (.isub, 1) := by decide +kernel
theorem dX10_feed_69 : decode cX10_feed 69 = .ok (.ishr, 1) := by decide +kernel
theorem dX10_feed_70 : decode cX10_feed 70 = .ok (.sipush 255, 3) := by decide +kernel
theorem dX10_feed_73 : decode cX10_feed 73 = .ok (.iand, 1) := by decide +kernel
theorem dX10_feed_74 : decode cX10_feed 74 = .ok (.iastore, 1) := by decide +kernel
theorem dX10_feed_75 : decode cX10_feed 75 = .ok (.aload_n 0, 1) := by decide +kernel
theorem dX10_feed_76 : decode cX10_feed 76 = .ok (.dup, 1) := by decide +kernel
theorem dX10_feed_77 : decode cX10_feed 77 = .ok (.getfield 166, 3) := by decide +kernel
theorem dX10_feed_80 : decode cX10_feed 80 = .ok (.iconst 1, 1) := by decide +kernel
theorem dX10_feed_81 : decode cX10_feed 81 = .ok (.iadd, 1) := by decide +kernel
theorem dX10_feed_82 : decode cX10_feed 82 = .ok (.putfield 166, 3) := by decide +kernel
theorem dX10_feed_85 : decode cX10_feed 85 = .ok (.iinc 4 1, 3) := by decide +kernel
theorem dX10_feed_88 : decode cX10_feed 88 = .ok (.goto (-70), 3) := by decide +kernel
theorem dX10_feed_91 : decode cX10_feed 91 = .ok (.aload_n 0, 1) := by decide +kernel
theorem dX10_feed_92 : decode cX10_feed 92 = .ok (.getfield 166, 3) := by decide +kernel
theorem dX10_feed_95 : decode cX10_feed 95 = .ok (.ireturn, 1) := by decide +kernel
theorem dX10_trim_0 : decode cX10_trim 0 = .ok (.iload_n 1, 1) := by decide +kernel
theorem dX10_trim_1 : decode cX10_trim 1 = .ok (.i2l, 1) := by decide +kernel
theorem dX10_trim_2 : decode cX10_trim 2 = .ok (.lconst 0, 1) := by decide +kernel
theorem dX10_trim_3 : decode cX10_trim 3 = .ok (.aload_n 0, 1) := by decide +kernel
theorem dX10_trim_4 : decode cX10_trim 4 = .ok (.getfield 166, 3) := by decide +kernel
theorem dX10_trim_7 : decode cX10_trim 7 = .ok (.i2l, 1) := by decide +kernel
theorem dX10_trim_8 : decode cX10_trim 8 = .ok (.invokestatic 80, 3) := by decide +kernel
theorem dX10_trim_11 : decode cX10_trim 11 = .ok (.ifCond .ne 6, 3) := by decide +kernel
theorem dX10_trim_14 : decode cX10_trim 14 = .ok (.ldc 102, 2) := by decide +kernel
theorem dX10_trim_16 : decode cX10_trim 16 = .ok (.ireturn, 1) := by decide +kernel
theorem dX10_trim_17 : decode cX10_trim 17 = .ok (.aload_n 0, 1) := by decide +kernel
theorem dX10_trim_18 : decode cX10_trim 18 = .ok (.iload_n 1, 1) := by decide +kernel
theorem dX10_trim_19 : decode cX10_trim 19 = .ok (.putfield 166, 3) := by decide +kernel
theorem dX10_trim_22 : decode cX10_trim 22 = .ok (.iload_n 1, 1) := by decide +kernel
theorem dX10_trim_23 : decode cX10_trim 23 = .ok (.ireturn, 1) := by decide +kernel
theorem dX10_isLetter_0 : decode cX10_isLetter 0 = .ok (.iload_n 1, 1) := by decide +kernel
theorem dX10_isLetter_1 : decode cX10_isLetter 1 = .ok (.aload_n 0, 1) := by decide +kernel
theorem dX10_isLetter_2 : decode cX10_isLetter 2 = .ok (.getfield 166, 3) := by decide +kernel
theorem dX10_isLetter_5 : decode cX10_isLetter 5 = .ok (.if_icmp .ge 26, 3) := by decide +kernel
theorem dX10_isLetter_8 : decode cX10_isLetter 8 = .ok (.aload_n 0, 1) := by decide +kernel
theorem dX10_isLetter_9 : decode cX10_isLetter 9 = .ok (.getfield 43, 3) := by decide +kernel
theorem dX10_isLetter_12 : decode cX10_isLetter 12 = .ok (.iload_n 1, 1) := by decide +kernel
theorem dX10_isLetter_13 : decode cX10_isLetter 13 = .ok (.iaload, 1) := by decide +kernel
theorem dX10_isLetter_14 : decode cX10_isLetter 14 = .ok (.i2l, 1) := by decide +kernel
theorem dX10_isLetter_15 : decode cX10_isLetter 15 = .ok (.ldc2_w 170, 3) := by decide +kernel
theorem dX10_isLetter_18 : decode cX10_isLetter 18 = .ok (.ldc2_w 172, 3) := by decide +kernel
theorem dX10_isLetter_21 : decode cX10_isLetter 21 = .ok (.invokestatic 80, 3) := by decide +kernel
theorem dX10_isLetter_24 : decode cX10_isLetter 24 = .ok (.ifCond .eq 7, 3) := by decide +kernel
theorem dX10_isLetter_27 : decode cX10_isLetter 27 = .ok (.iconst 1, 1) := by decide +kernel
theorem dX10_isLetter_28 : decode cX10_isLetter 28 = .ok (.goto 4, 3) := by decide +kernel
theorem dX10_isLetter_31 : decode cX10_isLetter 31 = .ok (.iconst 0, 1) := by decide +kernel
theorem dX10_isLetter_32 : decode cX10_isLetter 32 = .ok (.ireturn, 1) := by decide +kernel
theorem dX10_isDigit_0 : decode cX10_isDigit 0 = .ok (.iload_n 1, 1) := by decide +kernel
theorem dX10_isDigit_1 : decode cX10_isDigit 1 = .ok (.aload_n 0, 1) := by decide +kernel
theorem dX10_isDigit_2 : decode cX10_isDigit 2 = .ok (.getfield 166, 3) := by decide +kernel
theorem dX10_isDigit_5 : decode cX10_isDigit 5 = .ok (.if_icmp .ge 26, 3) := by decide +kernel
theorem dX10_isDigit_8 : decode cX10_isDigit 8 = .ok (.aload_n 0, 1) := by decide +kernel
theorem dX10_isDigit_9 : decode cX10_isDigit 9 = .ok (.getfield 43, 3) := by decide +kernel
theorem dX10_isDigit_12 : decode cX10_isDigit 12 = .ok (.iload_n 1, 1) := by decide +kernel
theorem dX10_isDigit_13 : decode cX10_isDigit 13 = .ok (.iaload, 1) := by decide +kernel
theorem dX10_isDigit_14 : decode cX10_isDigit 14 = .ok (.i2l, 1) := by decide +kernel
theorem dX10_isDigit_15 : decode cX10_isDigit 15 = .ok (.ldc2_w 174, 3) := by decide +kernel
theorem dX10_isDigit_18 : decode cX10_isDigit 18 = .ok (.ldc2_w 176, 3) := by decide +kernel
theorem dX10_isDigit_21 : decode cX10_isDigit 21 = .ok (.invokestatic 80, 3) := by decide +kernel
theorem dX10_isDigit_24 : decode cX10_isDigit 24 = .ok (.ifCond .eq 7, 3) := by decide +kernel
theorem dX10_isDigit_27 : decode cX10_isDigit 27 = .ok (.iconst 1, 1) := by decide +kernel
theorem dX10_isDigit_28 : decode cX10_isDigit 28 = .ok (.goto 4, 3) := by decide +kernel
theorem dX10_isDigit_31 : decode cX10_isDigit 31 = .ok (.iconst 0, 1) := by decide +kernel
theorem dX10_isDigit_32 : decode cX10_isDigit 32 = .ok (.ireturn, 1) := by decide +kernel
theorem dX10_goesOn_0 : decode cX10_goesOn 0 = .ok (.aload_n 0, 1) := by decide +kernel
theorem dX10_goesOn_1 : decode cX10_goesOn 1 = .ok (.getfield 178, 3) := by decide +kernel
theorem dX10_goesOn_4 : decode cX10_goesOn 4 = .ok (.ifCond .le 23, 3) := by decide +kernel
theorem dX10_goesOn_7 : decode cX10_goesOn 7 = .ok (.aload_n 0, 1) := by decide +kernel
theorem dX10_goesOn_8 : decode cX10_goesOn 8 = .ok (.getfield 181, 3) := by decide +kernel
theorem dX10_goesOn_11 : decode cX10_goesOn 11 = .ok (.iconst 1, 1) := by decide +kernel
theorem dX10_goesOn_12 : decode cX10_goesOn 12 = .ok (.if_icmp .eq 11, 3) := by decide +kernel
theorem dX10_goesOn_15 : decode cX10_goesOn 15 = .ok (.aload_n 0, 1) := by decide +kernel
theorem dX10_goesOn_16 : decode cX10_goesOn 16 = .ok (.getfield 181, 3) := by decide +kernel
theorem dX10_goesOn_19 : decode cX10_goesOn 19 = .ok (.iconst 2, 1) := by decide +kernel
theorem dX10_goesOn_20 : decode cX10_goesOn 20 = .ok (.if_icmp .ne 7, 3) := by decide +kernel
theorem dX10_goesOn_23 : decode cX10_goesOn 23 = .ok (.iconst 1, 1) := by decide +kernel
theorem dX10_goesOn_24 : decode cX10_goesOn 24 = .ok (.goto 4, 3) := by decide +kernel
theorem dX10_goesOn_27 : decode cX10_goesOn 27 = .ok (.iconst 0, 1) := by decide +kernel
theorem dX10_goesOn_28 : decode cX10_goesOn 28 = .ok (.istore_n 1, 1) := by decide +kernel
theorem dX10_goesOn_29 : decode cX10_goesOn 29 = .ok (.aload_n 0, 1) := by decide +kernel
theorem dX10_goesOn_30 : decode cX10_goesOn 30 = .ok (.getfield 178, 3) := by decide +kernel
theorem dX10_goesOn_33 : decode cX10_goesOn 33 = .ok (.istore_n 2, 1) := by decide +kernel
theorem dX10_goesOn_34 : decode cX10_goesOn 34 = .ok (.aload_n 0, 1) := by decide +kernel
theorem dX10_goesOn_35 : decode cX10_goesOn 35 = .ok (.getfield 178, 3) := by decide +kernel
theorem dX10_goesOn_38 : decode cX10_goesOn 38 = .ok (.aload_n 0, 1) := by decide +kernel
theorem dX10_goesOn_39 : decode cX10_goesOn 39 = .ok (.getfield 166, 3) := by decide +kernel
theorem dX10_goesOn_42 : decode cX10_goesOn 42 = .ok (.if_icmp .ge 30, 3) := by decide +kernel
theorem dX10_goesOn_45 : decode cX10_goesOn 45 = .ok (.aload_n 0, 1) := by decide +kernel
theorem dX10_goesOn_46 : decode cX10_goesOn 46 = .ok (.getfield 43, 3) := by decide +kernel
theorem dX10_goesOn_49 : decode cX10_goesOn 49 = .ok (.aload_n 0, 1) := by decide +kernel
theorem dX10_goesOn_50 : decode cX10_goesOn 50 = .ok (.getfield 178, 3) := by decide +kernel
theorem dX10_goesOn_53 : decode cX10_goesOn 53 = .ok (.iaload, 1) := by decide +kernel
theorem dX10_goesOn_54 : decode cX10_goesOn 54 = .ok (.bipush 32, 2) := by decide +kernel
theorem dX10_goesOn_56 : decode cX10_goesOn 56 = .ok (.if_icmp .ne 16, 3) := by decide +kernel
theorem dX10_goesOn_59 : decode cX10_goesOn 59 = .ok (.aload_n 0, 1) := by decide +kernel
theorem dX10_goesOn_60 : decode cX10_goesOn 60 = .ok (.dup, 1) := by decide +kernel
theorem dX10_goesOn_61 : decode cX10_goesOn 61 = .ok (.getfield 178, 3) := by decide +kernel
theorem dX10_goesOn_64 : decode cX10_goesOn 64 = .ok (.iconst 1, 1) := by decide +kernel
theorem dX10_goesOn_65 : decode cX10_goesOn 65 = .ok (.iadd, 1) := by decide +kernel
theorem dX10_goesOn_66 : decode cX10_goesOn 66 = .ok (.putfield 178, 3) := by decide +kernel
theorem dX10_goesOn_69 : decode cX10_goesOn 69 = .ok (.goto (-35), 3) := by decide +kernel
theorem dX10_goesOn_72 : decode cX10_goesOn 72 = .ok (.iload_n 1, 1) := by decide +kernel
theorem dX10_goesOn_73 : decode cX10_goesOn 73 = .ok (.ifCond .eq 15, 3) := by decide +kernel
theorem dX10_goesOn_76 : decode cX10_goesOn 76 = .ok (.iload_n 2, 1) := by decide +kernel
theorem dX10_goesOn_77 : decode cX10_goesOn 77 = .ok (.aload_n 0, 1) := by decide +kernel
theorem dX10_goesOn_78 : decode cX10_goesOn 78 = .ok (.getfield 178, 3) := by decide +kernel
theorem dX10_goesOn_81 : decode cX10_goesOn 81 = .ok (.if_icmp .ne 7, 3) := by decide +kernel
theorem dX10_goesOn_84 : decode cX10_goesOn 84 = .ok (.iconst 1, 1) := by decide +kernel
theorem dX10_goesOn_85 : decode cX10_goesOn 85 = .ok (.goto 4, 3) := by decide +kernel
theorem dX10_goesOn_88 : decode cX10_goesOn 88 = .ok (.iconst 0, 1) := by decide +kernel
theorem dX10_goesOn_89 : decode cX10_goesOn 89 = .ok (.istore_n 1, 1) := by decide +kernel
theorem dX10_goesOn_90 : decode cX10_goesOn 90 = .ok (.aload_n 0, 1) := by decide +kernel
theorem dX10_goesOn_91 : decode cX10_goesOn 91 = .ok (.aload_n 0, 1) := by decide +kernel
theorem dX10_goesOn_92 : decode cX10_goesOn 92 = .ok (.getfield 178, 3) := by decide +kernel
theorem dX10_goesOn_95 : decode cX10_goesOn 95 = .ok (.putfield 184, 3) := by decide +kernel
theorem dX10_goesOn_98 : decode cX10_goesOn 98 = .ok (.aload_n 0, 1) := by decide +kernel
theorem dX10_goesOn_99 : decode cX10_goesOn 99 = .ok (.getfield 184, 3) := by decide +kernel
theorem dX10_goesOn_102 : decode cX10_goesOn 102 = .ok (.aload_n 0, 1) := by decide +kernel
theorem dX10_goesOn_103 : decode cX10_goesOn 103 = .ok (.getfield 166, 3) := by decide +kernel
theorem dX10_goesOn_106 : decode cX10_goesOn 106 = .ok (.if_icmp .ne 11, 3) := by decide +kernel
theorem dX10_goesOn_109 : decode cX10_goesOn 109 = .ok (.aload_n 0, 1) := by decide +kernel
theorem dX10_goesOn_110 : decode cX10_goesOn 110 = .ok (.iconst 0, 1) := by decide +kernel
theorem dX10_goesOn_111 : decode cX10_goesOn 111 = .ok (.putfield 181, 3) := by decide +kernel
theorem dX10_goesOn_114 : decode cX10_goesOn 114 = .ok (.goto 225, 3) := by decide +kernel
theorem dX10_goesOn_117 : decode cX10_goesOn 117 = .ok (.aload_n 0, 1) := by decide +kernel
theorem dX10_goesOn_118 : decode cX10_goesOn 118 = .ok (.aload_n 0, 1) := by decide +kernel
