theorem dX10_from_46 : decode cX10_from 46 = .ok (.iload 4, 2) := by decide +kernel
theorem dX10_from_48 : decode cX10_from 48 = .ok (.iaload, 1) := by decide +kernel
theorem dX10_from_49 : decode cX10_from 49 = .ok (.aload_n 0, 1) := by decide +kernel
theorem dX10_from_50 : decode cX10_from 50 = .ok (.getfield 19, 3) := by decide +kernel
theorem dX10_from_53 : decode cX10_from 53 = .ok (.iload_n 1, 1) := by decide +kernel
theorem dX10_from_54 : decode cX10_from 54 = .ok (.iaload, 1) := by decide +kernel
theorem dX10_from_55 : decode cX10_from 55 = .ok (.if_icmp .ne 28, 3) := by decide +kernel
theorem dX10_from_58 : decode cX10_from 58 = .ok (.aload_n 0, 1) := by decide +kernel
theorem dX10_from_59 : decode cX10_from 59 = .ok (.iload 4, 2) := by decide +kernel
theorem dX10_from_61 : decode cX10_from 61 = .ok (.iload_n 1, 1) := by decide +kernel
theorem dX10_from_62 : decode cX10_from 62 = .ok (.invokevirtual 366, 3) := by decide +kernel
theorem dX10_from_65 : decode cX10_from 65 = .ok (.istore 5, 2) := by decide +kernel
theorem dX10_from_67 : decode cX10_from 67 = .ok (.iload_n 2, 1) := by decide +kernel
theorem dX10_from_68 : decode cX10_from 68 = .ok (.ifCond .lt 9, 3) := by decide +kernel
theorem dX10_from_71 : decode cX10_from 71 = .ok (.iload 5, 2) := by decide +kernel
theorem dX10_from_73 : decode cX10_from 73 = .ok (.iload_n 3, 1) := by decide +kernel
theorem dX10_from_74 : decode cX10_from 74 = .ok (.if_icmp .ge 9, 3) := by decide +kernel
theorem dX10_from_77 : decode cX10_from 77 = .ok (.iload 4, 2) := by decide +kernel
theorem dX10_from_79 : decode cX10_from 79 = .ok (.istore_n 2, 1) := by decide +kernel
theorem dX10_from_80 : decode cX10_from 80 = .ok (.iload 5, 2) := by decide +kernel
theorem dX10_from_82 : decode cX10_from 82 = .ok (.istore_n 3, 1) := by decide +kernel
theorem dX10_from_83 : decode cX10_from 83 = .ok (.iinc 4 1, 3) := by decide +kernel
theorem dX10_from_86 : decode cX10_from 86 = .ok (.goto (-56), 3) := by decide +kernel
theorem dX10_from_89 : decode cX10_from 89 = .ok (.iload_n 2, 1) := by decide +kernel
theorem dX10_from_90 : decode cX10_from 90 = .ok (.invokestatic 142, 3) := by decide +kernel
theorem dX10_from_93 : decode cX10_from 93 = .ok (.ireturn, 1) := by decide +kernel
theorem dX10_court_0 : decode cX10_court 0 = .ok (.iload_n 1, 1) := by decide +kernel
theorem dX10_court_1 : decode cX10_court 1 = .ok (.invokestatic 293, 3) := by decide +kernel
theorem dX10_court_4 : decode cX10_court 4 = .ok (.ifCond .eq 43, 3) := by decide +kernel
theorem dX10_court_7 : decode cX10_court 7 = .ok (.iload_n 2, 1) := by decide +kernel
theorem dX10_court_8 : decode cX10_court 8 = .ok (.i2l, 1) := by decide +kernel
theorem dX10_court_9 : decode cX10_court 9 = .ok (.ldc2_w 98, 3) := by decide +kernel
theorem dX10_court_12 : decode cX10_court 12 = .ok (.ldc2_w 100, 3) := by decide +kernel
theorem dX10_court_15 : decode cX10_court 15 = .ok (.invokestatic 80, 3) := by decide +kernel
theorem dX10_court_18 : decode cX10_court 18 = .ok (.ifCond .eq 29, 3) := by decide +kernel
theorem dX10_court_21 : decode cX10_court 21 = .ok (.iload_n 3, 1) := by decide +kernel
theorem dX10_court_22 : decode cX10_court 22 = .ok (.i2l, 1) := by decide +kernel
theorem dX10_court_23 : decode cX10_court 23 = .ok (.lconst 0, 1) := by decide +kernel
theorem dX10_court_24 : decode cX10_court 24 = .ok (.ldc2_w 369, 3) := by decide +kernel
theorem dX10_court_27 : decode cX10_court 27 = .ok (.invokestatic 80, 3) := by decide +kernel
theorem dX10_court_30 : decode cX10_court 30 = .ok (.ifCond .eq 17, 3) := by decide +kernel
theorem dX10_court_33 : decode cX10_court 33 = .ok (.iload 4, 2) := by decide +kernel
theorem dX10_court_35 : decode cX10_court 35 = .ok (.i2l, 1) := by decide +kernel
theorem dX10_court_36 : decode cX10_court 36 = .ok (.iload_n 3, 1) := by decide +kernel
theorem dX10_court_37 : decode cX10_court 37 = .ok (.i2l, 1) := by decide +kernel
theorem dX10_court_38 : decode cX10_court 38 = .ok (.ldc2_w 369, 3) := by decide +kernel
theorem dX10_court_41 : decode cX10_court 41 = .ok (.invokestatic 80, 3) := by decide +kernel
theorem dX10_court_44 : decode cX10_court 44 = .ok (.ifCond .ne 6, 3) := by decide +kernel
theorem dX10_court_47 : decode cX10_court 47 = .ok (.ldc 102, 2) := by decide +kernel
theorem dX10_court_49 : decode cX10_court 49 = .ok (.ireturn, 1) := by decide +kernel
theorem dX10_court_50 : decode cX10_court 50 = .ok (.aload_n 0, 1) := by decide +kernel
theorem dX10_court_51 : decode cX10_court 51 = .ok (.iload_n 1, 1) := by decide +kernel
theorem dX10_court_52 : decode cX10_court 52 = .ok (.invokevirtual 298, 3) := by decide +kernel
theorem dX10_court_55 : decode cX10_court 55 = .ok (.ifCond .ne 7, 3) := by decide +kernel
theorem dX10_court_58 : decode cX10_court 58 = .ok (.ldc_w 304, 3) := by decide +kernel
theorem dX10_court_61 : decode cX10_court 61 = .ok (.ireturn, 1) := by decide +kernel
theorem dX10_court_62 : decode cX10_court 62 = .ok (.aload_n 0, 1) := by decide +kernel
theorem dX10_court_63 : decode cX10_court 63 = .ok (.getfield 273, 3) := by decide +kernel
theorem dX10_court_66 : decode cX10_court 66 = .ok (.iload_n 2, 1) := by decide +kernel
theorem dX10_court_67 : decode cX10_court 67 = .ok (.iadd, 1) := by decide +kernel
theorem dX10_court_68 : decode cX10_court 68 = .ok (.istore 5, 2) := by decide +kernel
theorem dX10_court_70 : decode cX10_court 70 = .ok (.aload_n 0, 1) := by decide +kernel
theorem dX10_court_71 : decode cX10_court 71 = .ok (.getfield 277, 3) := by decide +kernel
theorem dX10_court_74 : decode cX10_court 74 = .ok (.iload_n 2, 1) := by decide +kernel
theorem dX10_court_75 : decode cX10_court 75 = .ok (.iadd, 1) := by decide +kernel
theorem dX10_court_76 : decode cX10_court 76 = .ok (.istore 6, 2) := by decide +kernel
theorem dX10_court_78 : decode cX10_court 78 = .ok (.iload_n 3, 1) := by decide +kernel
theorem dX10_court_79 : decode cX10_court 79 = .ok (.iload 5, 2) := by decide +kernel
theorem dX10_court_81 : decode cX10_court 81 = .ok (.if_icmp .gt 14, 3) := by decide +kernel
theorem dX10_court_84 : decode cX10_court 84 = .ok (.iload 6, 2) := by decide +kernel
theorem dX10_court_86 : decode cX10_court 86 = .ok (.iload 4, 2) := by decide +kernel
theorem dX10_court_88 : decode cX10_court 88 = .ok (.if_icmp .gt 7, 3) := by decide +kernel
theorem dX10_court_91 : decode cX10_court 91 = .ok (.iconst 2, 1) := by decide +kernel
theorem dX10_court_92 : decode cX10_court 92 = .ok (.goto 21, 3) := by decide +kernel
theorem dX10_court_95 : decode cX10_court 95 = .ok (.iload 5, 2) := by decide +kernel
theorem dX10_court_97 : decode cX10_court 97 = .ok (.iload 4, 2) := by decide +kernel
theorem dX10_court_99 : decode cX10_court 99 = .ok (.if_icmp .gt 13, 3) := by decide +kernel
theorem dX10_court_102 : decode cX10_court 102 = .ok (.iload_n 3, 1) := by decide +kernel
theorem dX10_court_103 : decode cX10_court 103 = .ok (.iload 6, 2) := by decide +kernel
theorem dX10_court_105 : decode cX10_court 105 = .ok (.if_icmp .gt 7, 3) := by decide +kernel
theorem dX10_court_108 : decode cX10_court 108 = .ok (.iconst 1, 1) := by decide +kernel
theorem dX10_court_109 : decode cX10_court 109 = .ok (.goto 4, 3) := by decide +kernel
theorem dX10_court_112 : decode cX10_court 112 = .ok (.iconst 0, 1) := by decide +kernel
theorem dX10_court_113 : decode cX10_court 113 = .ok (.ireturn, 1) := by decide +kernel
theorem dX10_survey_0 : decode cX10_survey 0 = .ok (.iload_n 1, 1) := by decide +kernel
theorem dX10_survey_1 : decode cX10_survey 1 = .ok (.invokestatic 293, 3) := by decide +kernel
theorem dX10_survey_4 : decode cX10_survey 4 = .ok (.ifCond .eq 30, 3) := by decide +kernel
theorem dX10_survey_7 : decode cX10_survey 7 = .ok (.iload_n 2, 1) := by decide +kernel
theorem dX10_survey_8 : decode cX10_survey 8 = .ok (.i2l, 1) := by decide +kernel
theorem dX10_survey_9 : decode cX10_survey 9 = .ok (.lconst 0, 1) := by decide +kernel
theorem dX10_survey_10 : decode cX10_survey 10 = .ok (.ldc2_w 96, 3) := by decide +kernel
theorem dX10_survey_13 : decode cX10_survey 13 = .ok (.invokestatic 80, 3) := by decide +kernel
theorem dX10_survey_16 : decode cX10_survey 16 = .ok (.ifCond .eq 18, 3) := by decide +kernel
theorem dX10_survey_19 : decode cX10_survey 19 = .ok (.aload_n 0, 1) := by decide +kernel
theorem dX10_survey_20 : decode cX10_survey 20 = .ok (.bipush 20, 2) := by decide +kernel
theorem dX10_survey_22 : decode cX10_survey 22 = .ok (.iload_n 1, 1) := by decide +kernel
theorem dX10_survey_23 : decode cX10_survey 23 = .ok (.iadd, 1) := by decide +kernel
theorem dX10_survey_24 : decode cX10_survey 24 = .ok (.iload_n 2, 1) := by decide +kernel
theorem dX10_survey_25 : decode cX10_survey 25 = .ok (.invokevirtual 161, 3) := by decide +kernel
theorem dX10_survey_28 : decode cX10_survey 28 = .ok (.invokestatic 142, 3) := by decide +kernel
theorem dX10_survey_31 : decode cX10_survey 31 = .ok (.goto 5, 3) := by decide +kernel
theorem dX10_survey_34 : decode cX10_survey 34 = .ok (.ldc 102, 2) := by decide +kernel
theorem dX10_survey_36 : decode cX10_survey 36 = .ok (.ireturn, 1) := by decide +kernel
theorem dX10_held_0 : decode cX10_held 0 = .ok (.iconst 0, 1) := by decide +kernel
theorem dX10_held_1 : decode cX10_held 1 = .ok (.istore_n 1, 1) := by decide +kernel
theorem dX10_held_2 : decode cX10_held 2 = .ok (.iconst 0, 1) := by decide +kernel
theorem dX10_held_3 : decode cX10_held 3 = .ok (.istore_n 2, 1) := by decide +kernel
theorem dX10_held_4 : decode cX10_held 4 = .ok (.iload_n 2, 1) := by decide +kernel
theorem dX10_held_5 : decode cX10_held 5 = .ok (.bipush 9, 2) := by decide +kernel
theorem dX10_held_7 : decode cX10_held 7 = .ok (.if_icmp .ge 65, 3) := by decide +kernel
theorem dX10_held_10 : decode cX10_held 10 = .ok (.iload_n 1, 1) := by decide +kernel
theorem dX10_held_11 : decode cX10_held 11 = .ok (.aload_n 0, 1) := by decide +kernel
theorem dX10_held_12 : decode cX10_held 12 = .ok (.iload_n 2, 1) := by decide +kernel
theorem dX10_held_13 : decode cX10_held 13 = .ok (.invokevirtual 298, 3) := by decide +kernel
theorem dX10_held_16 : decode cX10_held 16 = .ok (.ifCond .eq 47, 3) := by decide +kernel
theorem dX10_held_19 : decode cX10_held 19 = .ok (.aload_n 0, 1) := by decide +kernel
theorem dX10_held_20 : decode cX10_held 20 = .ok (.getfield 7, 3) := by decide +kernel
theorem dX10_held_23 : decode cX10_held 23 = .ok (.bipush 20, 2) := by decide +kernel
theorem dX10_held_25 : decode cX10_held 25 = .ok (.iload_n 2, 1) := by decide +kernel
theorem dX10_held_26 : decode cX10_held 26 = .ok (.iadd, 1) := by decide +kernel
theorem dX10_held_27 : decode cX10_held 27 = .ok (.iaload, 1) := by decide +kernel
theorem dX10_held_28 : decode cX10_held 28 = .ok (.ifCond .lt 35, 3) := by decide +kernel
theorem dX10_held_31 : decode cX10_held 31 = .ok (.aload_n 0, 1) := by decide +kernel
theorem dX10_held_32 : decode cX10_held 32 = .ok (.getfield 7, 3) := by decide +kernel
theorem dX10_held_35 : decode cX10_held 35 = .ok (.bipush 20, 2) := by decide +kernel
theorem dX10_held_37 : decode cX10_held 37 = .ok (.iload_n 2, 1) := by decide +kernel
theorem dX10_held_38 : decode cX10_held 38 = .ok (.iadd, 1) := by decide +kernel
theorem dX10_held_39 : decode cX10_held 39 = .ok (.iaload, 1) := by decide +kernel
theorem dX10_held_40 : decode cX10_held 40 = .ok (.i2l, 1) := by decide +kernel
theorem dX10_held_41 : decode cX10_held 41 = .ok (.aload_n 0, 1) := by decide +kernel
theorem dX10_held_42 : decode cX10_held 42 = .ok (.getfield 273, 3) := by decide +kernel
theorem dX10_held_45 : decode cX10_held 45 = .ok (.i2l, 1) := by decide +kernel
theorem dX10_held_46 : decode cX10_held 46 = .ok (.aload_n 0, 1) := by decide +kernel
theorem dX10_held_47 : decode cX10_held 47 = .ok (.getfield 277, 3) := by decide +kernel
theorem dX10_held_50 : decode cX10_held 50 = .ok (.i2l, 1) := by decide +kernel
theorem dX10_held_51 : decode cX10_held 51 = .ok (.invokestatic 80, 3) := by decide +kernel
theorem dX10_held_54 : decode cX10_held 54 = .ok (.ifCond .eq 9, 3) := by decide +kernel
theorem dX10_held_57 : decode cX10_held 57 = .ok (.iconst 1, 1) := by decide +kernel
theorem dX10_held_58 : decode cX10_held 58 = .ok (.iload_n 2, 1) := by decide +kernel
theorem dX10_held_59 : decode cX10_held 59 = .ok (.ishl, 1) := by decide +kernel
theorem dX10_held_60 : decode cX10_held 60 = .ok (.goto 4, 3) := by decide +kernel
theorem dX10_held_63 : decode cX10_held 63 = .ok (.iconst 0, 1) := by decide +kernel
theorem dX10_held_64 : decode cX10_held 64 = .ok (.ior, 1) := by decide +kernel
theorem dX10_held_65 : decode cX10_held 65 = .ok (.istore_n 1, 1) := by decide +kernel
theorem dX10_held_66 : decode cX10_held 66 = .ok (.iinc 2 1, 3) := by decide +kernel
theorem dX10_held_69 : decode cX10_held 69 = .ok (.goto (-65), 3) := by decide +kernel
theorem dX10_held_72 : decode cX10_held 72 = .ok (.iload_n 1, 1) := by decide +kernel
theorem dX10_held_73 : decode cX10_held 73 = .ok (.ireturn, 1) := by decide +kernel
theorem dX10_findMisses_0 : decode cX10_findMisses 0 = .ok (.aload_n 0, 1) := by decide +kernel
theorem dX10_findMisses_1 : decode cX10_findMisses 1 = .ok (.iconst 0, 1) := by decide +kernel
theorem dX10_findMisses_2 : decode cX10_findMisses 2 = .ok (.putfield 371, 3) := by decide +kernel
theorem dX10_findMisses_5 : decode cX10_findMisses 5 = .ok (.aload_n 0, 1) := by decide +kernel
theorem dX10_findMisses_6 : decode cX10_findMisses 6 = .ok (.iconst 0, 1) := by decide +kernel
theorem dX10_findMisses_7 : decode cX10_findMisses 7 = .ok (.putfield 374, 3) := by decide +kernel
theorem dX10_findMisses_10 : decode cX10_findMisses 10 = .ok (.iconst 0, 1) := by decide +kernel
theorem dX10_findMisses_11 : decode cX10_findMisses 11 = .ok (.istore_n 2, 1) := by decide +kernel
theorem dX10_findMisses_12 : decode cX10_findMisses 12 = .ok (.iload_n 2, 1) := by decide +kernel
theorem dX10_findMisses_13 : decode cX10_findMisses 13 = .ok (.aload_n 0, 1) := by decide +kernel
theorem dX10_findMisses_14 : decode cX10_findMisses 14 = .ok (.getfield 7, 3) := by decide +kernel
theorem dX10_findMisses_17 : decode cX10_findMisses 17 = .ok (.iconst 0, 1) := by decide +kernel
theorem dX10_findMisses_18 : decode cX10_findMisses 18 = .ok (.iaload, 1) := by decide +kernel
theorem dX10_findMisses_19 : decode cX10_findMisses 19 = .ok (.if_icmp .ge 79, 3) := by decide +kernel
theorem dX10_findMisses_22 : decode cX10_findMisses 22 = .ok (.aload_n 0, 1) := by decide +kernel
theorem dX10_findMisses_23 : decode cX10_findMisses 23 = .ok (.iload_n 2, 1) := by decide +kernel
theorem dX10_findMisses_24 : decode cX10_findMisses 24 = .ok (.iconst 5, 1) := by decide +kernel
theorem dX10_findMisses_25 : decode cX10_findMisses 25 = .ok (.invokevirtual 111, 3) := by decide +kernel
theorem dX10_findMisses_28 : decode cX10_findMisses 28 = .ok (.istore_n 3, 1) := by decide +kernel
theorem dX10_findMisses_29 : decode cX10_findMisses 29 = .ok (.aload_n 0, 1) := by decide +kernel
theorem dX10_findMisses_30 : decode cX10_findMisses 30 = .ok (.iload_n 2, 1) := by decide +kernel
theorem dX10_findMisses_31 : decode cX10_findMisses 31 = .ok (.iconst 1, 1) := by decide +kernel
theorem dX10_findMisses_32 : decode cX10_findMisses 32 = .ok (.invokevirtual 111, 3) := by decide +kernel
theorem dX10_findMisses_35 : decode cX10_findMisses 35 = .ok (.iload_n 1, 1) := by decide +kernel
theorem dX10_findMisses_36 : decode cX10_findMisses 36 = .ok (.if_icmp .ne 56, 3) := by decide +kernel
theorem dX10_findMisses_39 : decode cX10_findMisses 39 = .ok (.iload_n 3, 1) := by decide +kernel
theorem dX10_findMisses_40 : decode cX10_findMisses 40 = .ok (.ifCond .lt 52, 3) := by decide +kernel
theorem dX10_findMisses_43 : decode cX10_findMisses 43 = .ok (.aload_n 0, 1) := by decide +kernel
theorem dX10_findMisses_44 : decode cX10_findMisses 44 = .ok (.getfield 7, 3) := by decide +kernel
theorem dX10_findMisses_47 : decode cX10_findMisses 47 = .ok (.bipush 20, 2) := by decide +kernel
theorem dX10_findMisses_49 : decode cX10_findMisses 49 = .ok (.iload_n 3, 1) := by decide +kernel
theorem dX10_findMisses_50 : decode cX10_findMisses 50 = .ok (.iadd, 1) := by decide +kernel
theorem dX10_findMisses_51 : decode cX10_findMisses 51 = .ok (.iaload, 1) := by decide +kernel
theorem dX10_findMisses_52 : decode cX10_findMisses 52 = .ok (.ifCond .lt 40, 3) := by decide +kernel
theorem dX10_findMisses_55 : decode cX10_findMisses 55 = .ok (.aload_n 0, 1) := by decide +kernel
theorem dX10_findMisses_56 : decode cX10_findMisses 56 = .ok (.dup, 1) := by decide +kernel
theorem dX10_findMisses_57 : decode cX10_findMisses 57 = .ok (.getfield 371, 3) := by decide +kernel
theorem dX10_findMisses_60 : decode cX10_findMisses 60 = .ok (.aload_n 0, 1) := by decide +kernel
theorem dX10_findMisses_61 : decode cX10_findMisses 61 = .ok (.iload_n 2, 1) := by decide +kernel
theorem dX10_findMisses_62 : decode cX10_findMisses 62 = .ok (.invokevirtual 145, 3) := by decide +kernel
theorem dX10_findMisses_65 : decode cX10_findMisses 65 = .ok (.aload_n 0, 1) := by decide +kernel
theorem dX10_findMisses_66 : decode cX10_findMisses 66 = .ok (.getfield 7, 3) := by decide +kernel
theorem dX10_findMisses_69 : decode cX10_findMisses 69 = .ok (.bipush 20, 2) := by decide +kernel
theorem dX10_findMisses_71 : decode cX10_findMisses 71 = .ok (.iload_n 3, 1) := by decide +kernel
theorem dX10_findMisses_72 : decode cX10_findMisses 72 = .ok (.iadd, 1) := by decide +kernel
theorem dX10_findMisses_73 : decode cX10_findMisses 73 = .ok (.iaload, 1) := by decide +kernel
theorem dX10_findMisses_74 : decode cX10_findMisses 74 = .ok (.isub, 1) := by decide +kernel
theorem dX10_findMisses_75 : decode cX10_findMisses 75 = .ok (.invokestatic 327, 3) := by decide +kernel
theorem dX10_findMisses_78 : decode cX10_findMisses 78 = .ok (.iadd, 1) := by decide +kernel
theorem dX10_findMisses_79 : decode cX10_findMisses 79 = .ok (.putfield 371, 3) := by decide +kernel
theorem dX10_findMisses_82 : decode cX10_findMisses 82 = .ok (.aload_n 0, 1) := by decide +kernel
theorem dX10_findMisses_83 : decode cX10_findMisses 83 = .ok (.dup, 1) := by decide +kernel
theorem dX10_findMisses_84 : decode cX10_findMisses 84 = .ok (.getfield 374, 3) := by decide +kernel
theorem dX10_findMisses_87 : decode cX10_findMisses 87 = .ok (.iconst 1, 1) := by decide +kernel
theorem dX10_findMisses_88 : decode cX10_findMisses 88 = .ok (.iadd, 1) := by decide +kernel
theorem dX10_findMisses_89 : decode cX10_findMisses 89 = .ok (.putfield 374, 3) := by decide +kernel
theorem dX10_findMisses_92 : decode cX10_findMisses 92 = .ok (.iinc 2 1, 3) := by decide +kernel
theorem dX10_findMisses_95 : decode cX10_findMisses 95 = .ok (.goto (-83), 3) := by decide +kernel
theorem dX10_findMisses_98 : decode cX10_findMisses 98 = .ok (.return_, 1) := by decide +kernel
theorem dX10_misses_0 : decode cX10_misses 0 = .ok (.iload_n 1, 1) := by decide +kernel
theorem dX10_misses_1 : decode cX10_misses 1 = .ok (.invokestatic 263, 3) := by decide +kernel
theorem dX10_misses_4 : decode cX10_misses 4 = .ok (.ifCond .eq 13, 3) := by decide +kernel
theorem dX10_misses_7 : decode cX10_misses 7 = .ok (.iload_n 2, 1) := by decide +kernel
theorem dX10_misses_8 : decode cX10_misses 8 = .ok (.i2l, 1) := by decide +kernel
theorem dX10_misses_9 : decode cX10_misses 9 = .ok (.lconst 0, 1) := by decide +kernel
theorem dX10_misses_10 : decode cX10_misses 10 = .ok (.lconst 1, 1) := by decide +kernel
theorem dX10_misses_11 : decode cX10_misses 11 = .ok (.invokestatic 80, 3) := by decide +kernel
theorem dX10_misses_14 : decode cX10_misses 14 = .ok (.ifCond .ne 6, 3) := by decide +kernel
theorem dX10_misses_17 : decode cX10_misses 17 = .ok (.ldc 102, 2) := by decide +kernel
theorem dX10_misses_19 : decode cX10_misses 19 = .ok (.ireturn, 1) := by decide +kernel
theorem dX10_misses_20 : decode cX10_misses 20 = .ok (.aload_n 0, 1) := by decide +kernel
theorem dX10_misses_21 : decode cX10_misses 21 = .ok (.iload_n 1, 1) := by decide +kernel
theorem dX10_misses_22 : decode cX10_misses 22 = .ok (.invokevirtual 377, 3) := by decide +kernel
theorem dX10_misses_25 : decode cX10_misses 25 = .ok (.iload_n 2, 1) := by decide +kernel
theorem dX10_misses_26 : decode cX10_misses 26 = .ok (.ifCond .ne 10, 3) := by decide +kernel
theorem dX10_misses_29 : decode cX10_misses 29 = .ok (.aload_n 0, 1) := by decide +kernel
theorem dX10_misses_30 : decode cX10_misses 30 = .ok (.getfield 371, 3) := by decide +kernel
theorem dX10_misses_33 : decode cX10_misses 33 = .ok (.goto 7, 3) := by decide +kernel
theorem dX10_misses_36 : decode cX10_misses 36 = .ok (.aload_n 0, 1) := by decide +kernel
theorem dX10_misses_37 : decode cX10_misses 37 = .ok (.getfield 374, 3) := by decide +kernel
theorem dX10_misses_40 : decode cX10_misses 40 = .ok (.ireturn, 1) := by decide +kernel
theorem dX10_best_0 : decode cX10_best 0 = .ok (.iconst (-1), 1) := by decide +kernel
theorem dX10_best_1 : decode cX10_best 1 = .ok (.istore_n 1, 1) := by decide +kernel
theorem dX10_best_2 : decode cX10_best 2 = .ok (.iconst 0, 1) := by decide +kernel
theorem dX10_best_3 : decode cX10_best 3 = .ok (.istore_n 2, 1) := by decide +kernel
theorem dX10_best_4 : decode cX10_best 4 = .ok (.iconst 0, 1) := by decide +kernel
theorem dX10_best_5 : decode cX10_best 5 = .ok (.istore_n 3, 1) := by decide +kernel
theorem dX10_best_6 : decode cX10_best 6 = .ok (.iload_n 3, 1) := by decide +kernel
theorem dX10_best_7 : decode cX10_best 7 = .ok (.iconst 3, 1) := by decide +kernel
theorem dX10_best_8 : decode cX10_best 8 = .ok (.if_icmp .ge 50, 3) := by decide +kernel
theorem dX10_best_11 : decode cX10_best 11 = .ok (.aload_n 0, 1) := by decide +kernel
theorem dX10_best_12 : decode cX10_best 12 = .ok (.iload_n 3, 1) := by decide +kernel
theorem dX10_best_13 : decode cX10_best 13 = .ok (.invokevirtual 377, 3) := by decide +kernel
theorem dX10_best_16 : decode cX10_best 16 = .ok (.aload_n 0, 1) := by decide +kernel
theorem dX10_best_17 : decode cX10_best 17 = .ok (.getfield 374, 3) := by decide +kernel
theorem dX10_best_20 : decode cX10_best 20 = .ok (.ifCond .le 32, 3) := by decide +kernel
theorem dX10_best_23 : decode cX10_best 23 = .ok (.iload_n 1, 1) := by decide +kernel
theorem dX10_best_24 : decode cX10_best 24 = .ok (.ifCond .lt 16, 3) := by decide +kernel
theorem dX10_best_27 : decode cX10_best 27 = .ok (.aload_n 0, 1) := by decide +kernel
theorem dX10_best_28 : decode cX10_best 28 = .ok (.getfield 371, 3) := by decide +kernel
theorem dX10_best_31 : decode cX10_best 31 = .ok (.aload_n 0, 1) := by decide +kernel
theorem dX10_best_32 : decode cX10_best 32 = .ok (.getfield 374, 3) := by decide +kernel
theorem dX10_best_35 : decode cX10_best 35 = .ok (.idiv, 1) := by decide +kernel
theorem dX10_best_36 : decode cX10_best 36 = .ok (.iload_n 2, 1) := by decide +kernel
theorem dX10_best_37 : decode cX10_best 37 = .ok (.if_icmp .ge 15, 3) := by decide +kernel
theorem dX10_best_40 : decode cX10_best 40 = .ok (.iload_n 3, 1) := by decide +kernel
theorem dX10_best_41 : decode cX10_best 41 = .ok (.istore_n 1, 1) := by decide +kernel
theorem dX10_best_42 : decode cX10_best 42 = .ok (.aload_n 0, 1) := by decide +kernel
theorem dX10_best_43 : decode cX10_best 43 = .ok (.getfield 371, 3) := by decide +kernel
theorem dX10_best_46 : decode cX10_best 46 = .ok (.aload_n 0, 1) := by decide +kernel
theorem dX10_best_47 : decode cX10_best 47 = .ok (.getfield 374, 3) := by decide +kernel
theorem dX10_best_50 : decode cX10_best 50 = .ok (.idiv, 1) := by decide +kernel
theorem dX10_best_51 : decode cX10_best 51 = .ok (.istore_n 2, 1) := by decide +kernel
theorem dX10_best_52 : decode cX10_best 52 = .ok (.iinc 3 1, 3) := by decide +kernel
theorem dX10_best_55 : decode cX10_best 55 = .ok (.goto (-49), 3) := by decide +kernel
theorem dX10_best_58 : decode cX10_best 58 = .ok (.iload_n 1, 1) := by decide +kernel
theorem dX10_best_59 : decode cX10_best 59 = .ok (.invokestatic 142, 3) := by decide +kernel
theorem dX10_best_62 : decode cX10_best 62 = .ok (.ireturn, 1) := by decide +kernel
theorem dX10_seed_0 : decode cX10_seed 0 = .ok (.aload_n 0, 1) := by decide +kernel
theorem dX10_seed_1 : decode cX10_seed 1 = .ok (.iconst 4, 1) := by decide +kernel
theorem dX10_seed_2 : decode cX10_seed 2 = .ok (.iload_n 1, 1) := by decide +kernel
theorem dX10_seed_3 : decode cX10_seed 3 = .ok (.invokevirtual 161, 3) := by decide +kernel
theorem dX10_seed_6 : decode cX10_seed 6 = .ok (.ireturn, 1) := by decide +kernel
theorem dX10_drawn_0 : decode cX10_drawn 0 = .ok (.aload_n 0, 1) := by decide +kernel
theorem dX10_drawn_1 : decode cX10_drawn 1 = .ok (.getfield 7, 3) := by decide +kernel
theorem dX10_drawn_4 : decode cX10_drawn 4 = .ok (.iconst 4, 1) := by decide +kernel
theorem dX10_drawn_5 : decode cX10_drawn 5 = .ok (.aload_n 0, 1) := by decide +kernel
theorem dX10_drawn_6 : decode cX10_drawn 6 = .ok (.getfield 7, 3) := by decide +kernel
theorem dX10_drawn_9 : decode cX10_drawn 9 = .ok (.iconst 4, 1) := by decide +kernel
theorem dX10_drawn_10 : decode cX10_drawn 10 = .ok (.iaload, 1) := by decide +kernel
theorem dX10_drawn_11 : decode cX10_drawn 11 = .ok (.ldc_w 380, 3) := by decide +kernel
theorem dX10_drawn_14 : decode cX10_drawn 14 = .ok (.imul, 1) := by decide +kernel
theorem dX10_drawn_15 : decode cX10_drawn 15 = .ok (.sipush 12345, 3) := by decide +kernel
theorem dX10_drawn_18 : decode cX10_drawn 18 = .ok (.iadd, 1) := by decide +kernel
theorem dX10_drawn_19 : decode cX10_drawn 19 = .ok (.iastore, 1) := by decide +kernel
theorem dX10_drawn_20 : decode cX10_drawn 20 = .ok (.iload_n 1, 1) := by decide +kernel
theorem dX10_drawn_21 : decode cX10_drawn 21 = .ok (.iload_n 2, 1) := by decide +kernel
theorem dX10_drawn_22 : decode cX10_drawn 22 = .ok (.isub, 1) := by decide +kernel
theorem dX10_drawn_23 : decode cX10_drawn 23 = .ok (.aload_n 0, 1) := by decide +kernel
theorem dX10_drawn_24 : decode cX10_drawn 24 = .ok (.getfield 7, 3) := by decide +kernel
theorem dX10_drawn_27 : decode cX10_drawn 27 = .ok (.iconst 4, 1) := by decide +kernel
theorem dX10_drawn_28 : decode cX10_drawn 28 = .ok (.iaload, 1) := by decide +kernel
theorem dX10_drawn_29 : decode cX10_drawn 29 = .ok (.bipush 8, 2) := by decide +kernel
theorem dX10_drawn_31 : decode cX10_drawn 31 = .ok (.iushr, 1) := by decide +kernel
theorem dX10_drawn_32 : decode cX10_drawn 32 = .ok (.iconst 2, 1) := by decide +kernel
theorem dX10_drawn_33 : decode cX10_drawn 33 = .ok (.iload_n 2, 1) := by decide +kernel
theorem dX10_drawn_34 : decode cX10_drawn 34 = .ok (.imul, 1) := by decide +kernel
theorem dX10_drawn_35 : decode cX10_drawn 35 = .ok (.iconst 1, 1) := by decide +kernel
theorem dX10_drawn_36 : decode cX10_drawn 36 = .ok (.iadd, 1) := by decide +kernel
theorem dX10_drawn_37 : decode cX10_drawn 37 = .ok (.irem, 1) := by decide +kernel
theorem dX10_drawn_38 : decode cX10_drawn 38 = .ok (.iadd, 1) := by decide +kernel
theorem dX10_drawn_39 : decode cX10_drawn 39 = .ok (.ireturn, 1) := by decide +kernel
theorem dX10_share_0 : decode cX10_share 0 = .ok (.iload_n 1, 1) := by decide +kernel
theorem dX10_share_1 : decode cX10_share 1 = .ok (.i2l, 1) := by decide +kernel
theorem dX10_share_2 : decode cX10_share 2 = .ok (.lconst 1, 1) := by decide +kernel
theorem dX10_share_3 : decode cX10_share 3 = .ok (.ldc2_w 381, 3) := by decide +kernel
theorem dX10_share_6 : decode cX10_share 6 = .ok (.invokestatic 80, 3) := by decide +kernel
theorem dX10_share_9 : decode cX10_share 9 = .ok (.ifCond .eq 27, 3) := by decide +kernel
theorem dX10_share_12 : decode cX10_share 12 = .ok (.iload_n 2, 1) := by decide +kernel
theorem dX10_share_13 : decode cX10_share 13 = .ok (.i2l, 1) := by decide +kernel
theorem dX10_share_14 : decode cX10_share 14 = .ok (.lconst 0, 1) := by decide +kernel
theorem dX10_share_15 : decode cX10_share 15 = .ok (.ldc2_w 348, 3) := by decide +kernel
theorem dX10_share_18 : decode cX10_share 18 = .ok (.invokestatic 80, 3) := by decide +kernel
theorem dX10_share_21 : decode cX10_share 21 = .ok (.ifCond .eq 15, 3) := by decide +kernel
theorem dX10_share_24 : decode cX10_share 24 = .ok (.iload_n 3, 1) := by decide +kernel
theorem dX10_share_25 : decode cX10_share 25 = .ok (.i2l, 1) := by decide +kernel
theorem dX10_share_26 : decode cX10_share 26 = .ok (.lconst 0, 1) := by decide +kernel
theorem dX10_share_27 : decode cX10_share 27 = .ok (.ldc2_w 348, 3) := by decide +kernel
theorem dX10_share_30 : decode cX10_share 30 = .ok (.invokestatic 80, 3) := by decide +kernel
theorem dX10_share_33 : decode cX10_share 33 = .ok (.ifCond .ne 6, 3) := by decide +kernel
theorem dX10_share_36 : decode cX10_share 36 = .ok (.ldc 102, 2) := by decide +kernel
theorem dX10_share_38 : decode cX10_share 38 = .ok (.ireturn, 1) := by decide +kernel
theorem dX10_share_39 : decode cX10_share 39 = .ok (.iconst 0, 1) := by decide +kernel
theorem dX10_share_40 : decode cX10_share 40 = .ok (.istore 4, 2) := by decide +kernel
theorem dX10_share_42 : decode cX10_share 42 = .ok (.iconst 0, 1) := by decide +kernel
theorem dX10_share_43 : decode cX10_share 43 = .ok (.istore 5, 2) := by decide +kernel
theorem dX10_share_45 : decode cX10_share 45 = .ok (.iload 5, 2) := by decide +kernel
theorem dX10_share_47 : decode cX10_share 47 = .ok (.iload_n 1, 1) := by decide +kernel
theorem dX10_share_48 : decode cX10_share 48 = .ok (.if_icmp .ge 101, 3) := by decide +kernel
theorem dX10_share_51 : decode cX10_share 51 = .ok (.iconst 1, 1) := by decide +kernel
theorem dX10_share_52 : decode cX10_share 52 = .ok (.istore 6, 2) := by decide +kernel
theorem dX10_share_54 : decode cX10_share 54 = .ok (.iconst 0, 1) := by decide +kernel
theorem dX10_share_55 : decode cX10_share 55 = .ok (.istore 7, 2) := by decide +kernel
theorem dX10_share_57 : decode cX10_share 57 = .ok (.iload 7, 2) := by decide +kernel
theorem dX10_share_59 : decode cX10_share 59 = .ok (.bipush 9, 2) := by decide +kernel
theorem dX10_share_61 : decode cX10_share 61 = .ok (.if_icmp .ge 67, 3) := by decide +kernel
theorem dX10_share_64 : decode cX10_share 64 = .ok (.aload_n 0, 1) := by decide +kernel
theorem dX10_share_65 : decode cX10_share 65 = .ok (.getfield 7, 3) := by decide +kernel
theorem dX10_share_68 : decode cX10_share 68 = .ok (.bipush 20, 2) := by decide +kernel
theorem dX10_share_70 : decode cX10_share 70 = .ok (.iload 7, 2) := by decide +kernel
theorem dX10_share_72 : decode cX10_share 72 = .ok (.iadd, 1) := by decide +kernel
theorem dX10_share_73 : decode cX10_share 73 = .ok (.iaload, 1) := by decide +kernel
theorem dX10_share_74 : decode cX10_share 74 = .ok (.istore 8, 2) := by decide +kernel
theorem dX10_share_76 : decode cX10_share 76 = .ok (.iload 8, 2) := by decide +kernel
theorem dX10_share_78 : decode cX10_share 78 = .ok (.ifCond .lt 20, 3) := by decide +kernel
theorem dX10_share_81 : decode cX10_share 81 = .ok (.aload_n 0, 1) := by decide +kernel
theorem dX10_share_82 : decode cX10_share 82 = .ok (.iload 8, 2) := by decide +kernel
theorem dX10_share_84 : decode cX10_share 84 = .ok (.iload_n 2, 1) := by decide +kernel
theorem dX10_share_85 : decode cX10_share 85 = .ok (.invokevirtual 383, 3) := by decide +kernel
theorem dX10_share_88 : decode cX10_share 88 = .ok (.iload 8, 2) := by decide +kernel
theorem dX10_share_90 : decode cX10_share 90 = .ok (.isub, 1) := by decide +kernel
theorem dX10_share_91 : decode cX10_share 91 = .ok (.invokestatic 327, 3) := by decide +kernel
theorem dX10_share_94 : decode cX10_share 94 = .ok (.iload_n 3, 1) := by decide +kernel
theorem dX10_share_95 : decode cX10_share 95 = .ok (.if_icmp .gt 7, 3) := by decide +kernel
theorem dX10_share_98 : decode cX10_share 98 = .ok (.iconst 1, 1) := by decide +kernel
theorem dX10_share_99 : decode cX10_share 99 = .ok (.goto 4, 3) := by decide +kernel
theorem dX10_share_102 : decode cX10_share 102 = .ok (.iconst 0, 1) := by decide +kernel
theorem dX10_share_103 : decode cX10_share 103 = .ok (.istore 9, 2) := by decide +kernel
theorem dX10_share_105 : decode cX10_share 105 = .ok (.iload 6, 2) := by decide +kernel
theorem dX10_share_107 : decode cX10_share 107 = .ok (.ifCond .eq 12, 3) := by decide +kernel
theorem dX10_share_110 : decode cX10_share 110 = .ok (.iload 9, 2) := by decide +kernel
theorem dX10_share_112 : decode cX10_share 112 = .ok (.ifCond .eq 7, 3) := by decide +kernel
theorem dX10_share_115 : decode cX10_share 115 = .ok (.iconst 1, 1) := by decide +kernel
theorem dX10_share_116 : decode cX10_share 116 = .ok (.goto 4, 3) := by decide +kernel
theorem dX10_share_119 : decode cX10_share 119 = .ok (.iconst 0, 1) := by decide +kernel
theorem dX10_share_120 : decode cX10_share 120 = .ok (.istore 6, 2) := by decide +kernel
theorem dX10_share_122 : decode cX10_share 122 = .ok (.iinc 7 1, 3) := by decide +kernel
theorem dX10_share_125 : decode cX10_share 125 = .ok (.goto (-68), 3) := by decide +kernel
theorem dX10_share_128 : decode cX10_share 128 = .ok (.iload 4, 2) := by decide +kernel
theorem dX10_share_130 : decode cX10_share 130 = .ok (.iload 6, 2) := by decide +kernel
theorem dX10_share_132 : decode cX10_share 132 = .ok (.ifCond .eq 7, 3) := by decide +kernel
theorem dX10_share_135 : decode cX10_share 135 = .ok (.iconst 1, 1) := by decide +kernel
theorem dX10_share_136 : decode cX10_share 136 = .ok (.goto 4, 3) := by decide +kernel
theorem dX10_share_139 : decode cX10_share 139 = .ok (.iconst 0, 1) := by decide +kernel
theorem dX10_share_140 : decode cX10_share 140 = .ok (.iadd, 1) := by decide +kernel
theorem dX10_share_141 : decode cX10_share 141 = .ok (.istore 4, 2) := by decide +kernel
theorem dX10_share_143 : decode cX10_share 143 = .ok (.iinc 5 1, 3) := by decide +kernel
theorem dX10_share_146 : decode cX10_share 146 = .ok (.goto (-101), 3) := by decide +kernel
theorem dX10_share_149 : decode cX10_share 149 = .ok (.iload 4, 2) := by decide +kernel
theorem dX10_share_151 : decode cX10_share 151 = .ok (.ireturn, 1) := by decide +kernel
theorem dX10_sheet_0 : decode cX10_sheet 0 = .ok (.iload_n 1, 1) := by decide +kernel
theorem dX10_sheet_1 : decode cX10_sheet 1 = .ok (.invokestatic 359, 3) := by decide +kernel
theorem dX10_sheet_4 : decode cX10_sheet 4 = .ok (.ifCond .eq 25, 3) := by decide +kernel
theorem dX10_sheet_7 : decode cX10_sheet 7 = .ok (.iload_n 2, 1) := by decide +kernel
theorem dX10_sheet_8 : decode cX10_sheet 8 = .ok (.i2l, 1) := by decide +kernel
theorem dX10_sheet_9 : decode cX10_sheet 9 = .ok (.ldc2_w 159, 3) := by decide +kernel
theorem dX10_sheet_12 : decode cX10_sheet 12 = .ok (.lconst 1, 1) := by decide +kernel
theorem dX10_sheet_13 : decode cX10_sheet 13 = .ok (.invokestatic 80, 3) := by decide +kernel
theorem dX10_sheet_16 : decode cX10_sheet 16 = .ok (.ifCond .eq 13, 3) := by decide +kernel
theorem dX10_sheet_19 : decode cX10_sheet 19 = .ok (.iload_n 2, 1) := by decide +kernel
theorem dX10_sheet_20 : decode cX10_sheet 20 = .ok (.ifCond .lt 12, 3) := by decide +kernel
theorem dX10_sheet_23 : decode cX10_sheet 23 = .ok (.iload_n 3, 1) := by decide +kernel
theorem dX10_sheet_24 : decode cX10_sheet 24 = .ok (.bipush 24, 2) := by decide +kernel
theorem dX10_sheet_26 : decode cX10_sheet 26 = .ok (.if_icmp .le 6, 3) := by decide +kernel
theorem dX10_sheet_29 : decode cX10_sheet 29 = .ok (.ldc 102, 2) := by decide +kernel
theorem dX10_sheet_31 : decode cX10_sheet 31 = .ok (.ireturn, 1) := by decide +kernel
theorem dX10_sheet_32 : decode cX10_sheet 32 = .ok (.iload_n 2, 1) := by decide +kernel
theorem dX10_sheet_33 : decode cX10_sheet 33 = .ok (.ifCond .lt 11, 3) := by decide +kernel
theorem dX10_sheet_36 : decode cX10_sheet 36 = .ok (.iload_n 3, 1) := by decide +kernel
theorem dX10_sheet_37 : decode cX10_sheet 37 = .ok (.ifCond .ge 7, 3) := by decide +kernel
theorem dX10_sheet_40 : decode cX10_sheet 40 = .ok (.ldc_w 386, 3) := by decide +kernel
theorem dX10_sheet_43 : decode cX10_sheet 43 = .ok (.ireturn, 1) := by decide +kernel
theorem dX10_sheet_44 : decode cX10_sheet 44 = .ok (.aload_n 0, 1) := by decide +kernel
theorem dX10_sheet_45 : decode cX10_sheet 45 = .ok (.getfield 19, 3) := by decide +kernel
theorem dX10_sheet_48 : decode cX10_sheet 48 = .ok (.iload_n 1, 1) := by decide +kernel
theorem dX10_sheet_49 : decode cX10_sheet 49 = .ok (.iload_n 2, 1) := by decide +kernel
theorem dX10_sheet_50 : decode cX10_sheet 50 = .ok (.iastore, 1) := by decide +kernel
theorem dX10_sheet_51 : decode cX10_sheet 51 = .ok (.aload_n 0, 1) := by decide +kernel
theorem dX10_sheet_52 : decode cX10_sheet 52 = .ok (.getfield 22, 3) := by decide +kernel
theorem dX10_sheet_55 : decode cX10_sheet 55 = .ok (.iload_n 1, 1) := by decide +kernel
theorem dX10_sheet_56 : decode cX10_sheet 56 = .ok (.iload_n 2, 1) := by decide +kernel
theorem dX10_sheet_57 : decode cX10_sheet 57 = .ok (.ifCond .ge 7, 3) := by decide +kernel
theorem dX10_sheet_60 : decode cX10_sheet 60 = .ok (.iconst 0, 1) := by decide +kernel
theorem dX10_sheet_61 : decode cX10_sheet 61 = .ok (.goto 4, 3) := by decide +kernel
theorem dX10_sheet_64 : decode cX10_sheet 64 = .ok (.iload_n 3, 1) := by decide +kernel
theorem dX10_sheet_65 : decode cX10_sheet 65 = .ok (.iastore, 1) := by decide +kernel
theorem dX10_sheet_66 : decode cX10_sheet 66 = .ok (.iconst 0, 1) := by decide +kernel
theorem dX10_sheet_67 : decode cX10_sheet 67 = .ok (.istore 4, 2) := by decide +kernel
theorem dX10_sheet_69 : decode cX10_sheet 69 = .ok (.iload 4, 2) := by decide +kernel
theorem dX10_sheet_71 : decode cX10_sheet 71 = .ok (.bipush 24, 2) := by decide +kernel
theorem dX10_sheet_73 : decode cX10_sheet 73 = .ok (.if_icmp .ge 22, 3) := by decide +kernel
theorem dX10_sheet_76 : decode cX10_sheet 76 = .ok (.aload_n 0, 1) := by decide +kernel
theorem dX10_sheet_77 : decode cX10_sheet 77 = .ok (.getfield 25, 3) := by decide +kernel
theorem dX10_sheet_80 : decode cX10_sheet 80 = .ok (.bipush 24, 2) := by decide +kernel
theorem dX10_sheet_82 : decode cX10_sheet 82 = .ok (.iload_n 1, 1) := by decide +kernel
theorem dX10_sheet_83 : decode cX10_sheet 83 = .ok (.imul, 1) := by decide +kernel
theorem dX10_sheet_84 : decode cX10_sheet 84 = .ok (.iload 4, 2) := by decide +kernel
theorem dX10_sheet_86 : decode cX10_sheet 86 = .ok (.iadd, 1) := by decide +kernel
theorem dX10_sheet_87 : decode cX10_sheet 87 = .ok (.iconst 0, 1) := by decide +kernel
theorem dX10_sheet_88 : decode cX10_sheet 88 = .ok (.iastore, 1) := by decide +kernel
theorem dX10_sheet_89 : decode cX10_sheet 89 = .ok (.iinc 4 1, 3) := by decide +kernel
theorem dX10_sheet_92 : decode cX10_sheet 92 = .ok (.goto (-23), 3) := by decide +kernel
theorem dX10_sheet_95 : decode cX10_sheet 95 = .ok (.aload_n 0, 1) := by decide +kernel
theorem dX10_sheet_96 : decode cX10_sheet 96 = .ok (.getfield 22, 3) := by decide +kernel
theorem dX10_sheet_99 : decode cX10_sheet 99 = .ok (.iload_n 1, 1) := by decide +kernel
theorem dX10_sheet_100 : decode cX10_sheet 100 = .ok (.iaload, 1) := by decide +kernel
theorem dX10_sheet_101 : decode cX10_sheet 101 = .ok (.ireturn, 1) := by decide +kernel
theorem dX10_write_0 : decode cX10_write 0 = .ok (.iload_n 1, 1) := by decide +kernel
theorem dX10_write_1 : decode cX10_write 1 = .ok (.invokestatic 359, 3) := by decide +kernel
theorem dX10_write_4 : decode cX10_write 4 = .ok (.ifCond .ne 6, 3) := by decide +kernel
theorem dX10_write_7 : decode cX10_write 7 = .ok (.ldc 102, 2) := by decide +kernel
theorem dX10_write_9 : decode cX10_write 9 = .ok (.ireturn, 1) := by decide +kernel
theorem dX10_write_10 : decode cX10_write 10 = .ok (.aload_n 0, 1) := by decide +kernel
theorem dX10_write_11 : decode cX10_write 11 = .ok (.getfield 19, 3) := by decide +kernel
theorem dX10_write_14 : decode cX10_write 14 = .ok (.iload_n 1, 1) := by decide +kernel
theorem dX10_write_15 : decode cX10_write 15 = .ok (.iaload, 1) := by decide +kernel
theorem dX10_write_16 : decode cX10_write 16 = .ok (.ifCond .ge 7, 3) := by decide +kernel
theorem dX10_write_19 : decode cX10_write 19 = .ok (.ldc_w 362, 3) := by decide +kernel
theorem dX10_write_22 : decode cX10_write 22 = .ok (.ireturn, 1) := by decide +kernel
theorem dX10_write_23 : decode cX10_write 23 = .ok (.iload_n 2, 1) := by decide +kernel
theorem dX10_write_24 : decode cX10_write 24 = .ok (.i2l, 1) := by decide +kernel
theorem dX10_write_25 : decode cX10_write 25 = .ok (.lconst 0, 1) := by decide +kernel
theorem dX10_write_26 : decode cX10_write 26 = .ok (.aload_n 0, 1) := by decide +kernel
theorem dX10_write_27 : decode cX10_write 27 = .ok (.getfield 22, 3) := by decide +kernel
theorem dX10_write_30 : decode cX10_write 30 = .ok (.iload_n 1, 1) := by decide +kernel
theorem dX10_write_31 : decode cX10_write 31 = .ok (.iaload, 1) := by decide +kernel
theorem dX10_write_32 : decode cX10_write 32 = .ok (.iconst 1, 1) := by decide +kernel
theorem dX10_write_33 : decode cX10_write 33 = .ok (.isub, 1) := by decide +kernel
theorem dX10_write_34 : decode cX10_write 34 = .ok (.i2l, 1) := by decide +kernel
theorem dX10_write_35 : decode cX10_write 35 = .ok (.invokestatic 80, 3) := by decide +kernel
theorem dX10_write_38 : decode cX10_write 38 = .ok (.ifCond .ne 7, 3) := by decide +kernel
theorem dX10_write_41 : decode cX10_write 41 = .ok (.ldc_w 387, 3) := by decide +kernel
theorem dX10_write_44 : decode cX10_write 44 = .ok (.ireturn, 1) := by decide +kernel
theorem dX10_write_45 : decode cX10_write 45 = .ok (.aload_n 0, 1) := by decide +kernel
theorem dX10_write_46 : decode cX10_write 46 = .ok (.getfield 19, 3) := by decide +kernel
theorem dX10_write_49 : decode cX10_write 49 = .ok (.iload_n 1, 1) := by decide +kernel
theorem dX10_write_50 : decode cX10_write 50 = .ok (.iaload, 1) := by decide +kernel
theorem dX10_write_51 : decode cX10_write 51 = .ok (.iconst 1, 1) := by decide +kernel
theorem dX10_write_52 : decode cX10_write 52 = .ok (.if_icmp .ne 26, 3) := by decide +kernel
theorem dX10_write_55 : decode cX10_write 55 = .ok (.iload_n 3, 1) := by decide +kernel
theorem dX10_write_56 : decode cX10_write 56 = .ok (.ldc 79, 2) := by decide +kernel
theorem dX10_write_58 : decode cX10_write 58 = .ok (.if_icmp .eq 20, 3) := by decide +kernel
theorem dX10_write_61 : decode cX10_write 61 = .ok (.iload_n 3, 1) := by decide +kernel
theorem dX10_write_62 : decode cX10_write 62 = .ok (.i2l, 1) := by decide +kernel
theorem dX10_write_63 : decode cX10_write 63 = .ok (.ldc2_w 388, 3) := by decide +kernel
theorem dX10_write_66 : decode cX10_write 66 = .ok (.ldc2_w 390, 3) := by decide +kernel
theorem dX10_write_69 : decode cX10_write 69 = .ok (.invokestatic 80, 3) := by decide +kernel
theorem dX10_write_72 : decode cX10_write 72 = .ok (.ifCond .ne 6, 3) := by decide +kernel
theorem dX10_write_75 : decode cX10_write 75 = .ok (.ldc 102, 2) := by decide +kernel
theorem dX10_write_77 : decode cX10_write 77 = .ok (.ireturn, 1) := by decide +kernel
theorem dX10_write_78 : decode cX10_write 78 = .ok (.aload_n 0, 1) := by decide +kernel
theorem dX10_write_79 : decode cX10_write 79 = .ok (.getfield 25, 3) := by decide +kernel
theorem dX10_write_82 : decode cX10_write 82 = .ok (.bipush 24, 2) := by decide +kernel
theorem dX10_write_84 : decode cX10_write 84 = .ok (.iload_n 1, 1) := by decide +kernel
theorem dX10_write_85 : decode cX10_write 85 = .ok (.imul, 1) := by decide +kernel
theorem dX10_write_86 : decode cX10_write 86 = .ok (.iload_n 2, 1) := by decide +kernel
theorem dX10_write_87 : decode cX10_write 87 = .ok (.iadd, 1) := by decide +kernel
theorem dX10_write_88 : decode cX10_write 88 = .ok (.iload_n 3, 1) := by decide +kernel
theorem dX10_write_89 : decode cX10_write 89 = .ok (.iastore, 1) := by decide +kernel
theorem dX10_write_90 : decode cX10_write 90 = .ok (.iconst 1, 1) := by decide +kernel
theorem dX10_write_91 : decode cX10_write 91 = .ok (.ireturn, 1) := by decide +kernel
theorem dX10_log_0 : decode cX10_log 0 = .ok (.iload_n 1, 1) := by decide +kernel
theorem dX10_log_1 : decode cX10_log 1 = .ok (.invokestatic 359, 3) := by decide +kernel
theorem dX10_log_4 : decode cX10_log 4 = .ok (.ifCond .eq 15, 3) := by decide +kernel
theorem dX10_log_7 : decode cX10_log 7 = .ok (.iload_n 2, 1) := by decide +kernel
theorem dX10_log_8 : decode cX10_log 8 = .ok (.i2l, 1) := by decide +kernel
theorem dX10_log_9 : decode cX10_log 9 = .ok (.lconst 0, 1) := by decide +kernel
theorem dX10_log_10 : decode cX10_log 10 = .ok (.ldc2_w 94, 3) := by decide +kernel
theorem dX10_log_13 : decode cX10_log 13 = .ok (.invokestatic 80, 3) := by decide +kernel
theorem dX10_log_16 : decode cX10_log 16 = .ok (.ifCond .ne 6, 3) := by decide +kernel
theorem dX10_log_19 : decode cX10_log 19 = .ok (.ldc 102, 2) := by decide +kernel
theorem dX10_log_21 : decode cX10_log 21 = .ok (.ireturn, 1) := by decide +kernel
theorem dX10_log_22 : decode cX10_log 22 = .ok (.aload_n 0, 1) := by decide +kernel
theorem dX10_log_23 : decode cX10_log 23 = .ok (.getfield 19, 3) := by decide +kernel
theorem dX10_log_26 : decode cX10_log 26 = .ok (.iload_n 1, 1) := by decide +kernel
theorem dX10_log_27 : decode cX10_log 27 = .ok (.iaload, 1) := by decide +kernel
theorem dX10_log_28 : decode cX10_log 28 = .ok (.ifCond .ge 7, 3) := by decide +kernel
theorem dX10_log_31 : decode cX10_log 31 = .ok (.ldc_w 362, 3) := by decide +kernel
theorem dX10_log_34 : decode cX10_log 34 = .ok (.ireturn, 1) := by decide +kernel
theorem dX10_log_35 : decode cX10_log 35 = .ok (.iload_n 2, 1) := by decide +kernel
theorem dX10_log_36 : decode cX10_log 36 = .ok (.bipush 100, 2) := by decide +kernel
theorem dX10_log_38 : decode cX10_log 38 = .ok (.irem, 1) := by decide +kernel
theorem dX10_log_39 : decode cX10_log 39 = .ok (.aload_n 0, 1) := by decide +kernel
theorem dX10_log_40 : decode cX10_log 40 = .ok (.getfield 22, 3) := by decide +kernel
theorem dX10_log_43 : decode cX10_log 43 = .ok (.iload_n 1, 1) := by decide +kernel
theorem dX10_log_44 : decode cX10_log 44 = .ok (.iaload, 1) := by decide +kernel
theorem dX10_log_45 : decode cX10_log 45 = .ok (.iadd, 1) := by decide +kernel
theorem dX10_log_46 : decode cX10_log 46 = .ok (.iconst 1, 1) := by decide +kernel
theorem dX10_log_47 : decode cX10_log 47 = .ok (.isub, 1) := by decide +kernel
theorem dX10_log_48 : decode cX10_log 48 = .ok (.bipush 99, 2) := by decide +kernel
theorem dX10_log_50 : decode cX10_log 50 = .ok (.if_icmp .le 6, 3) := by decide +kernel
theorem dX10_log_53 : decode cX10_log 53 = .ok (.ldc 102, 2) := by decide +kernel
theorem dX10_log_55 : decode cX10_log 55 = .ok (.ireturn, 1) := by decide +kernel
theorem dX10_log_56 : decode cX10_log 56 = .ok (.iconst 0, 1) := by decide +kernel
theorem dX10_log_57 : decode cX10_log 57 = .ok (.istore_n 3, 1) := by decide +kernel
theorem dX10_log_58 : decode cX10_log 58 = .ok (.iconst 0, 1) := by decide +kernel
theorem dX10_log_59 : decode cX10_log 59 = .ok (.istore 4, 2) := by decide +kernel
theorem dX10_log_61 : decode cX10_log 61 = .ok (.iload 4, 2) := by decide +kernel
theorem dX10_log_63 : decode cX10_log 63 = .ok (.aload_n 0, 1) := by decide +kernel
theorem dX10_log_64 : decode cX10_log 64 = .ok (.getfield 22, 3) := by decide +kernel
theorem dX10_log_67 : decode cX10_log 67 = .ok (.iload_n 1, 1) := by decide +kernel
theorem dX10_log_68 : decode cX10_log 68 = .ok (.iaload, 1) := by decide +kernel
theorem dX10_log_69 : decode cX10_log 69 = .ok (.if_icmp .ge 40, 3) := by decide +kernel
theorem dX10_log_72 : decode cX10_log 72 = .ok (.iload_n 3, 1) := by decide +kernel
theorem dX10_log_73 : decode cX10_log 73 = .ok (.aload_n 0, 1) := by decide +kernel
theorem dX10_log_74 : decode cX10_log 74 = .ok (.getfield 25, 3) := by decide +kernel
theorem dX10_log_77 : decode cX10_log 77 = .ok (.bipush 24, 2) := by decide +kernel
theorem dX10_log_79 : decode cX10_log 79 = .ok (.iload_n 1, 1) := by decide +kernel
theorem dX10_log_80 : decode cX10_log 80 = .ok (.imul, 1) := by decide +kernel
theorem dX10_log_81 : decode cX10_log 81 = .ok (.iload 4, 2) := by decide +kernel
theorem dX10_log_83 : decode cX10_log 83 = .ok (.iadd, 1) := by decide +kernel
theorem dX10_log_84 : decode cX10_log 84 = .ok (.iaload, 1) := by decide +kernel
theorem dX10_log_85 : decode cX10_log 85 = .ok (.i2l, 1) := by decide +kernel
theorem dX10_log_86 : decode cX10_log 86 = .ok (.lconst 0, 1) := by decide +kernel
theorem dX10_log_87 : decode cX10_log 87 = .ok (.ldc2_w 96, 3) := by decide +kernel
theorem dX10_log_90 : decode cX10_log 90 = .ok (.invokestatic 80, 3) := by decide +kernel
theorem dX10_log_93 : decode cX10_log 93 = .ok (.ifCond .eq 7, 3) := by decide +kernel
theorem dX10_log_96 : decode cX10_log 96 = .ok (.iconst 1, 1) := by decide +kernel
theorem dX10_log_97 : decode cX10_log 97 = .ok (.goto 4, 3) := by decide +kernel
theorem dX10_log_100 : decode cX10_log 100 = .ok (.iconst 0, 1) := by decide +kernel
theorem dX10_log_101 : decode cX10_log 101 = .ok (.iadd, 1) := by decide +kernel
theorem dX10_log_102 : decode cX10_log 102 = .ok (.istore_n 3, 1) := by decide +kernel
theorem dX10_log_103 : decode cX10_log 103 = .ok (.iinc 4 1, 3) := by decide +kernel
theorem dX10_log_106 : decode cX10_log 106 = .ok (.goto (-45), 3) := by decide +kernel
theorem dX10_log_109 : decode cX10_log 109 = .ok (.aload_n 0, 1) := by decide +kernel
theorem dX10_log_110 : decode cX10_log 110 = .ok (.getfield 7, 3) := by decide +kernel
theorem dX10_log_113 : decode cX10_log 113 = .ok (.iconst 0, 1) := by decide +kernel
theorem dX10_log_114 : decode cX10_log 114 = .ok (.iaload, 1) := by decide +kernel
theorem dX10_log_115 : decode cX10_log 115 = .ok (.iload_n 3, 1) := by decide +kernel
theorem dX10_log_116 : decode cX10_log 116 = .ok (.iadd, 1) := by decide +kernel
theorem dX10_log_117 : decode cX10_log 117 = .ok (.bipush 24, 2) := by decide +kernel
theorem dX10_log_119 : decode cX10_log 119 = .ok (.if_icmp .le 6, 3) := by decide +kernel
theorem dX10_log_122 : decode cX10_log 122 = .ok (.ldc 103, 2) := by decide +kernel
theorem dX10_log_124 : decode cX10_log 124 = .ok (.ireturn, 1) := by decide +kernel
theorem dX10_log_125 : decode cX10_log 125 = .ok (.iconst 0, 1) := by decide +kernel
theorem dX10_log_126 : decode cX10_log 126 = .ok (.istore 4, 2) := by decide +kernel
theorem dX10_log_128 : decode cX10_log 128 = .ok (.iload 4, 2) := by decide +kernel
theorem dX10_log_130 : decode cX10_log 130 = .ok (.aload_n 0, 1) := by decide +kernel
theorem dX10_log_131 : decode cX10_log 131 = .ok (.getfield 22, 3) := by decide +kernel
theorem dX10_log_134 : decode cX10_log 134 = .ok (.iload_n 1, 1) := by decide +kernel
theorem dX10_log_135 : decode cX10_log 135 = .ok (.iaload, 1) := by decide +kernel
theorem dX10_log_136 : decode cX10_log 136 = .ok (.if_icmp .ge 56, 3) := by decide +kernel
theorem dX10_log_139 : decode cX10_log 139 = .ok (.aload_n 0, 1) := by decide +kernel
theorem dX10_log_140 : decode cX10_log 140 = .ok (.getfield 25, 3) := by decide +kernel
theorem dX10_log_143 : decode cX10_log 143 = .ok (.bipush 24, 2) := by decide +kernel
theorem dX10_log_145 : decode cX10_log 145 = .ok (.iload_n 1, 1) := by decide +kernel
theorem dX10_log_146 : decode cX10_log 146 = .ok (.imul, 1) := by decide +kernel
theorem dX10_log_147 : decode cX10_log 147 = .ok (.iload 4, 2) := by decide +kernel
theorem dX10_log_149 : decode cX10_log 149 = .ok (.iadd, 1) := by decide +kernel
theorem dX10_log_150 : decode cX10_log 150 = .ok (.iaload, 1) := by decide +kernel
theorem dX10_log_151 : decode cX10_log 151 = .ok (.i2l, 1) := by decide +kernel
theorem dX10_log_152 : decode cX10_log 152 = .ok (.lconst 0, 1) := by decide +kernel
theorem dX10_log_153 : decode cX10_log 153 = .ok (.ldc2_w 96, 3) := by decide +kernel
theorem dX10_log_156 : decode cX10_log 156 = .ok (.invokestatic 80, 3) := by decide +kernel
theorem dX10_log_159 : decode cX10_log 159 = .ok (.ifCond .eq 27, 3) := by decide +kernel
theorem dX10_log_162 : decode cX10_log 162 = .ok (.aload_n 0, 1) := by decide +kernel
theorem dX10_log_163 : decode cX10_log 163 = .ok (.iconst 0, 1) := by decide +kernel
theorem dX10_log_164 : decode cX10_log 164 = .ok (.iload_n 2, 1) := by decide +kernel
theorem dX10_log_165 : decode cX10_log 165 = .ok (.iload 4, 2) := by decide +kernel
theorem dX10_log_167 : decode cX10_log 167 = .ok (.iadd, 1) := by decide +kernel
theorem dX10_log_168 : decode cX10_log 168 = .ok (.aload_n 0, 1) := by decide +kernel
theorem dX10_log_169 : decode cX10_log 169 = .ok (.getfield 25, 3) := by decide +kernel
theorem dX10_log_172 : decode cX10_log 172 = .ok (.bipush 24, 2) := by decide +kernel
theorem dX10_log_174 : decode cX10_log 174 = .ok (.iload_n 1, 1) := by decide +kernel
theorem dX10_log_175 : decode cX10_log 175 = .ok (.imul, 1) := by decide +kernel
theorem dX10_log_176 : decode cX10_log 176 = .ok (.iload 4, 2) := by decide +kernel
theorem dX10_log_178 : decode cX10_log 178 = .ok (.iadd, 1) := by decide +kernel
theorem dX10_log_179 : decode cX10_log 179 = .ok (.iaload, 1) := by decide +kernel
theorem dX10_log_180 : decode cX10_log 180 = .ok (.iconst 0, 1) := by decide +kernel
theorem dX10_log_181 : decode cX10_log 181 = .ok (.invokevirtual 104, 3) := by decide +kernel
theorem dX10_log_184 : decode cX10_log 184 = .ok (.istore 5, 2) := by decide +kernel
theorem dX10_log_186 : decode cX10_log 186 = .ok (.iinc 4 1, 3) := by decide +kernel
theorem dX10_log_189 : decode cX10_log 189 = .ok (.goto (-61), 3) := by decide +kernel
theorem dX10_log_192 : decode cX10_log 192 = .ok (.iload_n 3, 1) := by decide +kernel
theorem dX10_log_193 : decode cX10_log 193 = .ok (.ireturn, 1) := by decide +kernel
theorem dX10_copy_0 : decode cX10_copy 0 = .ok (.iload_n 1, 1) := by decide +kernel
theorem dX10_copy_1 : decode cX10_copy 1 = .ok (.invokestatic 359, 3) := by decide +kernel
theorem dX10_copy_4 : decode cX10_copy 4 = .ok (.ifCond .eq 10, 3) := by decide +kernel
theorem dX10_copy_7 : decode cX10_copy 7 = .ok (.iload_n 3, 1) := by decide +kernel
theorem dX10_copy_8 : decode cX10_copy 8 = .ok (.invokestatic 359, 3) := by decide +kernel
theorem dX10_copy_11 : decode cX10_copy 11 = .ok (.ifCond .ne 6, 3) := by decide +kernel
theorem dX10_copy_14 : decode cX10_copy 14 = .ok (.ldc 102, 2) := by decide +kernel
theorem dX10_copy_16 : decode cX10_copy 16 = .ok (.ireturn, 1) := by decide +kernel
theorem dX10_copy_17 : decode cX10_copy 17 = .ok (.aload_n 0, 1) := by decide +kernel
theorem dX10_copy_18 : decode cX10_copy 18 = .ok (.getfield 19, 3) := by decide +kernel
theorem dX10_copy_21 : decode cX10_copy 21 = .ok (.iload_n 1, 1) := by decide +kernel
theorem dX10_copy_22 : decode cX10_copy 22 = .ok (.iaload, 1) := by decide +kernel
theorem dX10_copy_23 : decode cX10_copy 23 = .ok (.ifCond .lt 12, 3) := by decide +kernel
theorem dX10_copy_26 : decode cX10_copy 26 = .ok (.aload_n 0, 1) := by decide +kernel
theorem dX10_copy_27 : decode cX10_copy 27 = .ok (.getfield 19, 3) := by decide +kernel
theorem dX10_copy_30 : decode cX10_copy 30 = .ok (.iload_n 3, 1) := by decide +kernel
theorem dX10_copy_31 : decode cX10_copy 31 = .ok (.iaload, 1) := by decide +kernel
theorem dX10_copy_32 : decode cX10_copy 32 = .ok (.ifCond .ge 7, 3) := by decide +kernel
theorem dX10_copy_35 : decode cX10_copy 35 = .ok (.ldc_w 362, 3) := by decide +kernel
theorem dX10_copy_38 : decode cX10_copy 38 = .ok (.ireturn, 1) := by decide +kernel
theorem dX10_copy_39 : decode cX10_copy 39 = .ok (.aload_n 0, 1) := by decide +kernel
theorem dX10_copy_40 : decode cX10_copy 40 = .ok (.getfield 19, 3) := by decide +kernel
theorem dX10_copy_43 : decode cX10_copy 43 = .ok (.iload_n 1, 1) := by decide +kernel
theorem dX10_copy_44 : decode cX10_copy 44 = .ok (.iaload, 1) := by decide +kernel
theorem dX10_copy_45 : decode cX10_copy 45 = .ok (.aload_n 0, 1) := by decide +kernel
theorem dX10_copy_46 : decode cX10_copy 46 = .ok (.getfield 19, 3) := by decide +kernel
theorem dX10_copy_49 : decode cX10_copy 49 = .ok (.iload_n 3, 1) := by decide +kernel
theorem dX10_copy_50 : decode cX10_copy 50 = .ok (.iaload, 1) := by decide +kernel
theorem dX10_copy_51 : decode cX10_copy 51 = .ok (.if_icmp .eq 6, 3) := by decide +kernel
theorem dX10_copy_54 : decode cX10_copy 54 = .ok (.ldc 158, 2) := by decide +kernel
theorem dX10_copy_56 : decode cX10_copy 56 = .ok (.ireturn, 1) := by decide +kernel
theorem dX10_copy_57 : decode cX10_copy 57 = .ok (.iload_n 2, 1) := by decide +kernel
theorem dX10_copy_58 : decode cX10_copy 58 = .ok (.ifCond .lt 48, 3) := by decide +kernel
theorem dX10_copy_61 : decode cX10_copy 61 = .ok (.iload 4, 2) := by decide +kernel
theorem dX10_copy_63 : decode cX10_copy 63 = .ok (.ifCond .lt 43, 3) := by decide +kernel
theorem dX10_copy_66 : decode cX10_copy 66 = .ok (.iload 5, 2) := by decide +kernel
theorem dX10_copy_68 : decode cX10_copy 68 = .ok (.ifCond .lt 38, 3) := by decide +kernel
theorem dX10_copy_71 : decode cX10_copy 71 = .ok (.iload_n 2, 1) := by decide +kernel
theorem dX10_copy_72 : decode cX10_copy 72 = .ok (.i2l, 1) := by decide +kernel
theorem dX10_copy_73 : decode cX10_copy 73 = .ok (.iload 5, 2) := by decide +kernel
theorem dX10_copy_75 : decode cX10_copy 75 = .ok (.i2l, 1) := by decide +kernel
theorem dX10_copy_76 : decode cX10_copy 76 = .ok (.ladd, 1) := by decide +kernel
theorem dX10_copy_77 : decode cX10_copy 77 = .ok (.aload_n 0, 1) := by decide +kernel
theorem dX10_copy_78 : decode cX10_copy 78 = .ok (.getfield 22, 3) := by decide +kernel
theorem dX10_copy_81 : decode cX10_copy 81 = .ok (.iload_n 1, 1) := by decide +kernel
theorem dX10_copy_82 : decode cX10_copy 82 = .ok (.iaload, 1) := by decide +kernel
theorem dX10_copy_83 : decode cX10_copy 83 = .ok (.i2l, 1) := by decide +kernel
theorem dX10_copy_84 : decode cX10_copy 84 = .ok (.lcmp, 1) := by decide +kernel
theorem dX10_copy_85 : decode cX10_copy 85 = .ok (.ifCond .gt 21, 3) := by decide +kernel
theorem dX10_copy_88 : decode cX10_copy 88 = .ok (.iload 4, 2) := by decide +kernel
theorem dX10_copy_90 : decode cX10_copy 90 = .ok (.i2l, 1) := by decide +kernel
theorem dX10_copy_91 : decode cX10_copy 91 = .ok (.iload 5, 2) := by decide +kernel
theorem dX10_copy_93 : decode cX10_copy 93 = .ok (.i2l, 1) := by decide +kernel
theorem dX10_copy_94 : decode cX10_copy 94 = .ok (.ladd, 1) := by decide +kernel
theorem dX10_copy_95 : decode cX10_copy 95 = .ok (.aload_n 0, 1) := by decide +kernel
theorem dX10_copy_96 : decode cX10_copy 96 = .ok (.getfield 22, 3) := by decide +kernel
theorem dX10_copy_99 : decode cX10_copy 99 = .ok (.iload_n 3, 1) := by decide +kernel
theorem dX10_copy_100 : decode cX10_copy 100 = .ok (.iaload, 1) := by decide +kernel
theorem dX10_copy_101 : decode cX10_copy 101 = .ok (.i2l, 1) := by decide +kernel
theorem dX10_copy_102 : decode cX10_copy 102 = .ok (.lcmp, 1) := by decide +kernel
theorem dX10_copy_103 : decode cX10_copy 103 = .ok (.ifCond .le 7, 3) := by decide +kernel
theorem dX10_copy_106 : decode cX10_copy 106 = .ok (.ldc_w 387, 3) := by decide +kernel
theorem dX10_copy_109 : decode cX10_copy 109 = .ok (.ireturn, 1) := by decide +kernel
theorem dX10_copy_110 : decode cX10_copy 110 = .ok (.iconst 0, 1) := by decide +kernel
theorem dX10_copy_111 : decode cX10_copy 111 = .ok (.istore 6, 2) := by decide +kernel
theorem dX10_copy_113 : decode cX10_copy 113 = .ok (.iload 6, 2) := by decide +kernel
theorem dX10_copy_115 : decode cX10_copy 115 = .ok (.iload 5, 2) := by decide +kernel
theorem dX10_copy_117 : decode cX10_copy 117 = .ok (.if_icmp .ge 30, 3) := by decide +kernel
theorem dX10_copy_120 : decode cX10_copy 120 = .ok (.aload_n 0, 1) := by decide +kernel
theorem dX10_copy_121 : decode cX10_copy 121 = .ok (.getfield 67, 3) := by decide +kernel
theorem dX10_copy_124 : decode cX10_copy 124 = .ok (.iload 6, 2) := by decide +kernel
theorem dX10_copy_126 : decode cX10_copy 126 = .ok (.aload_n 0, 1) := by decide +kernel
theorem dX10_copy_127 : decode cX10_copy 127 = .ok (.getfield 25, 3) := by decide +kernel
theorem dX10_copy_130 : decode cX10_copy 130 = .ok (.bipush 24, 2) := by decide +kernel
theorem dX10_copy_132 : decode cX10_copy 132 = .ok (.iload_n 1, 1) := by decide +kernel
theorem dX10_copy_133 : decode cX10_copy 133 = .ok (.imul, 1) := by decide +kernel
theorem dX10_copy_134 : decode cX10_copy 134 = .ok (.iload_n 2, 1) := by decide +kernel
theorem dX10_copy_135 : decode cX10_copy 135 = .ok (.iadd, 1) := by decide +kernel
theorem dX10_copy_136 : decode cX10_copy 136 = .ok (.iload 6, 2) := by decide +kernel
theorem dX10_copy_138 : decode cX10_copy 138 = .ok (.iadd, 1) := by decide +kernel
theorem dX10_copy_139 : decode cX10_copy 139 = .ok (.iaload, 1) := by decide +kernel
theorem dX10_copy_140 : decode cX10_copy 140 = .ok (.iastore, 1) := by decide +kernel
theorem dX10_copy_141 : decode cX10_copy 141 = .ok (.iinc 6 1, 3) := by decide +kernel
theorem dX10_copy_144 : decode cX10_copy 144 = .ok (.goto (-31), 3) := by decide +kernel
theorem dX10_copy_147 : decode cX10_copy 147 = .ok (.iconst 0, 1) := by decide +kernel
theorem dX10_copy_148 : decode cX10_copy 148 = .ok (.istore 6, 2) := by decide +kernel
theorem dX10_copy_150 : decode cX10_copy 150 = .ok (.iload 6, 2) := by decide +kernel
theorem dX10_copy_152 : decode cX10_copy 152 = .ok (.iload 5, 2) := by decide +kernel
theorem dX10_copy_154 : decode cX10_copy 154 = .ok (.if_icmp .ge 31, 3) := by decide +kernel
theorem dX10_copy_157 : decode cX10_copy 157 = .ok (.aload_n 0, 1) := by decide +kernel
theorem dX10_copy_158 : decode cX10_copy 158 = .ok (.getfield 25, 3) := by decide +kernel
theorem dX10_copy_161 : decode cX10_copy 161 = .ok (.bipush 24, 2) := by decide +kernel
theorem dX10_copy_163 : decode cX10_copy 163 = .ok (.iload_n 3, 1) := by decide +kernel
theorem dX10_copy_164 : decode cX10_copy 164 = .ok (.imul, 1) := by decide +kernel
theorem dX10_copy_165 : decode cX10_copy 165 = .ok (.iload 4, 2) := by decide +kernel
theorem dX10_copy_167 : decode cX10_copy 167 = .ok (.iadd, 1) := by decide +kernel
theorem dX10_copy_168 : decode cX10_copy 168 = .ok (.iload 6, 2) := by decide +kernel
theorem dX10_copy_170 : decode cX10_copy 170 = .ok (.iadd, 1) := by decide +kernel
theorem dX10_copy_171 : decode cX10_copy 171 = .ok (.aload_n 0, 1) := by decide +kernel
theorem dX10_copy_172 : decode cX10_copy 172 = .ok (.getfield 67, 3) := by decide +kernel
theorem dX10_copy_175 : decode cX10_copy 175 = .ok (.iload 6, 2) := by decide +kernel
theorem dX10_copy_177 : decode cX10_copy 177 = .ok (.iaload, 1) := by decide +kernel
theorem dX10_copy_178 : decode cX10_copy 178 = .ok (.iastore, 1) := by decide +kernel
theorem dX10_copy_179 : decode cX10_copy 179 = .ok (.iinc 6 1, 3) := by decide +kernel
theorem dX10_copy_182 : decode cX10_copy 182 = .ok (.goto (-32), 3) := by decide +kernel
theorem dX10_copy_185 : decode cX10_copy 185 = .ok (.iload 5, 2) := by decide +kernel
theorem dX10_copy_187 : decode cX10_copy 187 = .ok (.ireturn, 1) := by decide +kernel
theorem dX10_isSlot_0 : decode cX10_isSlot 0 = .ok (.iload_n 0, 1) := by decide +kernel
theorem dX10_isSlot_1 : decode cX10_isSlot 1 = .ok (.i2l, 1) := by decide +kernel
theorem dX10_isSlot_2 : decode cX10_isSlot 2 = .ok (.lconst 0, 1) := by decide +kernel
theorem dX10_isSlot_3 : decode cX10_isSlot 3 = .ok (.ldc2_w 296, 3) := by decide +kernel
theorem dX10_isSlot_6 : decode cX10_isSlot 6 = .ok (.invokestatic 80, 3) := by decide +kernel
theorem dX10_isSlot_9 : decode cX10_isSlot 9 = .ok (.ireturn, 1) := by decide +kernel
theorem dX10_lay_0 : decode cX10_lay 0 = .ok (.iload_n 2, 1) := by decide +kernel
theorem dX10_lay_1 : decode cX10_lay 1 = .ok (.ifCond .eq 33, 3) := by decide +kernel
theorem dX10_lay_4 : decode cX10_lay 4 = .ok (.iload_n 2, 1) := by decide +kernel
theorem dX10_lay_5 : decode cX10_lay 5 = .ok (.iconst 3, 1) := by decide +kernel
theorem dX10_lay_6 : decode cX10_lay 6 = .ok (.if_icmp .eq 28, 3) := by decide +kernel
theorem dX10_lay_9 : decode cX10_lay 9 = .ok (.iload_n 2, 1) := by decide +kernel
theorem dX10_lay_10 : decode cX10_lay 10 = .ok (.iconst 1, 1) := by decide +kernel
theorem dX10_lay_11 : decode cX10_lay 11 = .ok (.if_icmp .ne 11, 3) := by decide +kernel
theorem dX10_lay_14 : decode cX10_lay 14 = .ok (.aload_n 0, 1) := by decide +kernel
theorem dX10_lay_15 : decode cX10_lay 15 = .ok (.iload_n 3, 1) := by decide +kernel
theorem dX10_lay_16 : decode cX10_lay 16 = .ok (.invokevirtual 138, 3) := by decide +kernel
theorem dX10_lay_19 : decode cX10_lay 19 = .ok (.ifCond .ne 15, 3) := by decide +kernel
theorem dX10_lay_22 : decode cX10_lay 22 = .ok (.iload_n 2, 1) := by decide +kernel
theorem dX10_lay_23 : decode cX10_lay 23 = .ok (.iconst 2, 1) := by decide +kernel
theorem dX10_lay_24 : decode cX10_lay 24 = .ok (.if_icmp .ne 14, 3) := by decide +kernel
theorem dX10_lay_27 : decode cX10_lay 27 = .ok (.iload_n 3, 1) := by decide +kernel
theorem dX10_lay_28 : decode cX10_lay 28 = .ok (.invokestatic 359, 3) := by decide +kernel
theorem dX10_lay_31 : decode cX10_lay 31 = .ok (.ifCond .eq 7, 3) := by decide +kernel
theorem dX10_lay_34 : decode cX10_lay 34 = .ok (.iconst 1, 1) := by decide +kernel
theorem dX10_lay_35 : decode cX10_lay 35 = .ok (.goto 4, 3) := by decide +kernel
theorem dX10_lay_38 : decode cX10_lay 38 = .ok (.iconst 0, 1) := by decide +kernel
theorem dX10_lay_39 : decode cX10_lay 39 = .ok (.istore 4, 2) := by decide +kernel
theorem dX10_lay_41 : decode cX10_lay 41 = .ok (.iload_n 1, 1) := by decide +kernel
theorem dX10_lay_42 : decode cX10_lay 42 = .ok (.invokestatic 392, 3) := by decide +kernel
theorem dX10_lay_45 : decode cX10_lay 45 = .ok (.ifCond .eq 8, 3) := by decide +kernel
theorem dX10_lay_48 : decode cX10_lay 48 = .ok (.iload 4, 2) := by decide +kernel
theorem dX10_lay_50 : decode cX10_lay 50 = .ok (.ifCond .ne 6, 3) := by decide +kernel
theorem dX10_lay_53 : decode cX10_lay 53 = .ok (.ldc 102, 2) := by decide +kernel
theorem dX10_lay_55 : decode cX10_lay 55 = .ok (.ireturn, 1) := by decide +kernel
theorem dX10_lay_56 : decode cX10_lay 56 = .ok (.iload_n 2, 1) := by decide +kernel
theorem dX10_lay_57 : decode cX10_lay 57 = .ok (.iconst 2, 1) := by decide +kernel
theorem dX10_lay_58 : decode cX10_lay 58 = .ok (.if_icmp .ne 16, 3) := by decide +kernel
theorem dX10_lay_61 : decode cX10_lay 61 = .ok (.aload_n 0, 1) := by decide +kernel
theorem dX10_lay_62 : decode cX10_lay 62 = .ok (.getfield 19, 3) := by decide +kernel
theorem dX10_lay_65 : decode cX10_lay 65 = .ok (.iload_n 3, 1) := by decide +kernel
theorem dX10_lay_66 : decode cX10_lay 66 = .ok (.iaload, 1) := by decide +kernel
theorem dX10_lay_67 : decode cX10_lay 67 = .ok (.ifCond .ge 7, 3) := by decide +kernel
theorem dX10_lay_70 : decode cX10_lay 70 = .ok (.ldc_w 362, 3) := by decide +kernel
theorem dX10_lay_73 : decode cX10_lay 73 = .ok (.ireturn, 1) := by decide +kernel
theorem dX10_lay_74 : decode cX10_lay 74 = .ok (.aload_n 0, 1) := by decide +kernel
theorem dX10_lay_75 : decode cX10_lay 75 = .ok (.getfield 28, 3) := by decide +kernel
theorem dX10_lay_78 : decode cX10_lay 78 = .ok (.iload_n 1, 1) := by decide +kernel
theorem dX10_lay_79 : decode cX10_lay 79 = .ok (.iaload, 1) := by decide +kernel
theorem dX10_lay_80 : decode cX10_lay 80 = .ok (.istore 5, 2) := by decide +kernel
theorem dX10_lay_82 : decode cX10_lay 82 = .ok (.aload_n 0, 1) := by decide +kernel
theorem dX10_lay_83 : decode cX10_lay 83 = .ok (.getfield 28, 3) := by decide +kernel
theorem dX10_lay_86 : decode cX10_lay 86 = .ok (.iload_n 1, 1) := by decide +kernel
theorem dX10_lay_87 : decode cX10_lay 87 = .ok (.iload_n 2, 1) := by decide +kernel
theorem dX10_lay_88 : decode cX10_lay 88 = .ok (.iastore, 1) := by decide +kernel
theorem dX10_lay_89 : decode cX10_lay 89 = .ok (.aload_n 0, 1) := by decide +kernel
theorem dX10_lay_90 : decode cX10_lay 90 = .ok (.getfield 31, 3) := by decide +kernel
theorem dX10_lay_93 : decode cX10_lay 93 = .ok (.iload_n 1, 1) := by decide +kernel
theorem dX10_lay_94 : decode cX10_lay 94 = .ok (.iload_n 2, 1) := by decide +kernel
theorem dX10_lay_95 : decode cX10_lay 95 = .ok (.iconst 1, 1) := by decide +kernel
theorem dX10_lay_96 : decode cX10_lay 96 = .ok (.if_icmp .ne 12, 3) := by decide +kernel
theorem dX10_lay_99 : decode cX10_lay 99 = .ok (.aload_n 0, 1) := by decide +kernel
theorem dX10_lay_100 : decode cX10_lay 100 = .ok (.iload_n 3, 1) := by decide +kernel
theorem dX10_lay_101 : decode cX10_lay 101 = .ok (.iconst 0, 1) := by decide +kernel
theorem dX10_lay_102 : decode cX10_lay 102 = .ok (.invokevirtual 111, 3) := by decide +kernel
theorem dX10_lay_105 : decode cX10_lay 105 = .ok (.goto 4, 3) := by decide +kernel
theorem dX10_lay_108 : decode cX10_lay 108 = .ok (.iload_n 3, 1) := by decide +kernel
theorem dX10_lay_109 : decode cX10_lay 109 = .ok (.iastore, 1) := by decide +kernel
theorem dX10_lay_110 : decode cX10_lay 110 = .ok (.iload_n 2, 1) := by decide +kernel
theorem dX10_lay_111 : decode cX10_lay 111 = .ok (.iconst 2, 1) := by decide +kernel
theorem dX10_lay_112 : decode cX10_lay 112 = .ok (.if_icmp .ne 67, 3) := by decide +kernel
theorem dX10_lay_115 : decode cX10_lay 115 = .ok (.aload_n 0, 1) := by decide +kernel
theorem dX10_lay_116 : decode cX10_lay 116 = .ok (.getfield 34, 3) := by decide +kernel
theorem dX10_lay_119 : decode cX10_lay 119 = .ok (.iload_n 1, 1) := by decide +kernel
theorem dX10_lay_120 : decode cX10_lay 120 = .ok (.aload_n 0, 1) := by decide +kernel
theorem dX10_lay_121 : decode cX10_lay 121 = .ok (.getfield 19, 3) := by decide +kernel
theorem dX10_lay_124 : decode cX10_lay 124 = .ok (.iload_n 3, 1) := by decide +kernel
theorem dX10_lay_125 : decode cX10_lay 125 = .ok (.iaload, 1) := by decide +kernel
theorem dX10_lay_126 : decode cX10_lay 126 = .ok (.iastore, 1) := by decide +kernel
theorem dX10_lay_127 : decode cX10_lay 127 = .ok (.aload_n 0, 1) := by decide +kernel
theorem dX10_lay_128 : decode cX10_lay 128 = .ok (.getfield 37, 3) := by decide +kernel
theorem dX10_lay_131 : decode cX10_lay 131 = .ok (.iload_n 1, 1) := by decide +kernel
theorem dX10_lay_132 : decode cX10_lay 132 = .ok (.aload_n 0, 1) := by decide +kernel
theorem dX10_lay_133 : decode cX10_lay 133 = .ok (.getfield 22, 3) := by decide +kernel
theorem dX10_lay_136 : decode cX10_lay 136 = .ok (.iload_n 3, 1) := by decide +kernel
theorem dX10_lay_137 : decode cX10_lay 137 = .ok (.iaload, 1) := by decide +kernel
theorem dX10_lay_138 : decode cX10_lay 138 = .ok (.iastore, 1) := by decide +kernel
theorem dX10_lay_139 : decode cX10_lay 139 = .ok (.iconst 0, 1) := by decide +kernel
theorem dX10_lay_140 : decode cX10_lay 140 = .ok (.istore 6, 2) := by decide +kernel
theorem dX10_lay_142 : decode cX10_lay 142 = .ok (.iload 6, 2) := by decide +kernel
theorem dX10_lay_144 : decode cX10_lay 144 = .ok (.bipush 24, 2) := by decide +kernel
theorem dX10_lay_146 : decode cX10_lay 146 = .ok (.if_icmp .ge 33, 3) := by decide +kernel
theorem dX10_lay_149 : decode cX10_lay 149 = .ok (.aload_n 0, 1) := by decide +kernel
theorem dX10_lay_150 : decode cX10_lay 150 = .ok (.getfield 40, 3) := by decide +kernel
theorem dX10_lay_153 : decode cX10_lay 153 = .ok (.bipush 24, 2) := by decide +kernel
theorem dX10_lay_155 : decode cX10_lay 155 = .ok (.iload_n 1, 1) := by decide +kernel
theorem dX10_lay_156 : decode cX10_lay 156 = .ok (.imul, 1) := by decide +kernel
theorem dX10_lay_157 : decode cX10_lay 157 = .ok (.iload 6, 2) := by decide +kernel
theorem dX10_lay_159 : decode cX10_lay 159 = .ok (.iadd, 1) := by decide +kernel
theorem dX10_lay_160 : decode cX10_lay 160 = .ok (.aload_n 0, 1) := by decide +kernel
theorem dX10_lay_161 : decode cX10_lay 161 = .ok (.getfield 25, 3) := by decide +kernel
theorem dX10_lay_164 : decode cX10_lay 164 = .ok (.bipush 24, 2) := by decide +kernel
theorem dX10_lay_166 : decode cX10_lay 166 = .ok (.iload_n 3, 1) := by decide +kernel
theorem dX10_lay_167 : decode cX10_lay 167 = .ok (.imul, 1) := by decide +kernel
theorem dX10_lay_168 : decode cX10_lay 168 = .ok (.iload 6, 2) := by decide +kernel
theorem dX10_lay_170 : decode cX10_lay 170 = .ok (.iadd, 1) := by decide +kernel
theorem dX10_lay_171 : decode cX10_lay 171 = .ok (.iaload, 1) := by decide +kernel
theorem dX10_lay_172 : decode cX10_lay 172 = .ok (.iastore, 1) := by decide +kernel
theorem dX10_lay_173 : decode cX10_lay 173 = .ok (.iinc 6 1, 3) := by decide +kernel
theorem dX10_lay_176 : decode cX10_lay 176 = .ok (.goto (-34), 3) := by decide +kernel
theorem dX10_lay_179 : decode cX10_lay 179 = .ok (.iload 5, 2) := by decide +kernel
theorem dX10_lay_181 : decode cX10_lay 181 = .ok (.ireturn, 1) := by decide +kernel
theorem dX10_ask_0 : decode cX10_ask 0 = .ok (.iload_n 1, 1) := by decide +kernel
theorem dX10_ask_1 : decode cX10_ask 1 = .ok (.invokestatic 392, 3) := by decide +kernel
theorem dX10_ask_4 : decode cX10_ask 4 = .ok (.ifCond .eq 15, 3) := by decide +kernel
theorem dX10_ask_7 : decode cX10_ask 7 = .ok (.iload_n 2, 1) := by decide +kernel
theorem dX10_ask_8 : decode cX10_ask 8 = .ok (.i2l, 1) := by decide +kernel
theorem dX10_ask_9 : decode cX10_ask 9 = .ok (.lconst 0, 1) := by decide +kernel
theorem dX10_ask_10 : decode cX10_ask 10 = .ok (.ldc2_w 92, 3) := by decide +kernel
theorem dX10_ask_13 : decode cX10_ask 13 = .ok (.invokestatic 80, 3) := by decide +kernel
theorem dX10_ask_16 : decode cX10_ask 16 = .ok (.ifCond .ne 6, 3) := by decide +kernel
theorem dX10_ask_19 : decode cX10_ask 19 = .ok (.ldc 102, 2) := by decide +kernel
theorem dX10_ask_21 : decode cX10_ask 21 = .ok (.ireturn, 1) := by decide +kernel
theorem dX10_ask_22 : decode cX10_ask 22 = .ok (.aload_n 0, 1) := by decide +kernel
theorem dX10_ask_23 : decode cX10_ask 23 = .ok (.getfield 28, 3) := by decide +kernel
theorem dX10_ask_26 : decode cX10_ask 26 = .ok (.iload_n 1, 1) := by decide +kernel
theorem dX10_ask_27 : decode cX10_ask 27 = .ok (.iaload, 1) := by decide +kernel
theorem dX10_ask_28 : decode cX10_ask 28 = .ok (.ifCond .ne 7, 3) := by decide +kernel
theorem dX10_ask_31 : decode cX10_ask 31 = .ok (.ldc_w 362, 3) := by decide +kernel
theorem dX10_ask_34 : decode cX10_ask 34 = .ok (.ireturn, 1) := by decide +kernel
theorem dX10_ask_35 : decode cX10_ask 35 = .ok (.aload_n 0, 1) := by decide +kernel
theorem dX10_ask_36 : decode cX10_ask 36 = .ok (.getfield 28, 3) := by decide +kernel
theorem dX10_ask_39 : decode cX10_ask 39 = .ok (.iload_n 1, 1) := by decide +kernel
theorem dX10_ask_40 : decode cX10_ask 40 = .ok (.iaload, 1) := by decide +kernel
theorem dX10_ask_41 : decode cX10_ask 41 = .ok (.iconst 1, 1) := by decide +kernel
theorem dX10_ask_42 : decode cX10_ask 42 = .ok (.if_icmp .ne 28, 3) := by decide +kernel
theorem dX10_ask_45 : decode cX10_ask 45 = .ok (.aload_n 0, 1) := by decide +kernel
theorem dX10_ask_46 : decode cX10_ask 46 = .ok (.getfield 31, 3) := by decide +kernel
theorem dX10_ask_49 : decode cX10_ask 49 = .ok (.iload_n 1, 1) := by decide +kernel
theorem dX10_ask_50 : decode cX10_ask 50 = .ok (.iaload, 1) := by decide +kernel
theorem dX10_ask_51 : decode cX10_ask 51 = .ok (.iload_n 2, 1) := by decide +kernel
theorem dX10_ask_52 : decode cX10_ask 52 = .ok (.invokestatic 154, 3) := by decide +kernel
theorem dX10_ask_55 : decode cX10_ask 55 = .ok (.ifCond .eq 15, 3) := by decide +kernel
theorem dX10_ask_58 : decode cX10_ask 58 = .ok (.aload_n 0, 1) := by decide +kernel
theorem dX10_ask_59 : decode cX10_ask 59 = .ok (.getfield 31, 3) := by decide +kernel
theorem dX10_ask_62 : decode cX10_ask 62 = .ok (.iload_n 1, 1) := by decide +kernel
theorem dX10_ask_63 : decode cX10_ask 63 = .ok (.iaload, 1) := by decide +kernel
theorem dX10_ask_64 : decode cX10_ask 64 = .ok (.invokestatic 151, 3) := by decide +kernel
theorem dX10_ask_67 : decode cX10_ask 67 = .ok (.goto 5, 3) := by decide +kernel
theorem dX10_ask_70 : decode cX10_ask 70 = .ok (.ldc 158, 2) := by decide +kernel
theorem dX10_ask_72 : decode cX10_ask 72 = .ok (.ireturn, 1) := by decide +kernel
theorem dX10_item_0 : decode cX10_item 0 = .ok (.iload_n 1, 1) := by decide +kernel
theorem dX10_item_1 : decode cX10_item 1 = .ok (.invokestatic 392, 3) := by decide +kernel
theorem dX10_item_4 : decode cX10_item 4 = .ok (.ifCond .ne 6, 3) := by decide +kernel
theorem dX10_item_7 : decode cX10_item 7 = .ok (.ldc 102, 2) := by decide +kernel
theorem dX10_item_9 : decode cX10_item 9 = .ok (.ireturn, 1) := by decide +kernel
theorem dX10_item_10 : decode cX10_item 10 = .ok (.aload_n 0, 1) := by decide +kernel
theorem dX10_item_11 : decode cX10_item 11 = .ok (.getfield 28, 3) := by decide +kernel
theorem dX10_item_14 : decode cX10_item 14 = .ok (.iload_n 1, 1) := by decide +kernel
theorem dX10_item_15 : decode cX10_item 15 = .ok (.iaload, 1) := by decide +kernel
theorem dX10_item_16 : decode cX10_item 16 = .ok (.iconst 2, 1) := by decide +kernel
theorem dX10_item_17 : decode cX10_item 17 = .ok (.if_icmp .eq 21, 3) := by decide +kernel
theorem dX10_item_20 : decode cX10_item 20 = .ok (.aload_n 0, 1) := by decide +kernel
theorem dX10_item_21 : decode cX10_item 21 = .ok (.getfield 28, 3) := by decide +kernel
theorem dX10_item_24 : decode cX10_item 24 = .ok (.iload_n 1, 1) := by decide +kernel
theorem dX10_item_25 : decode cX10_item 25 = .ok (.iaload, 1) := by decide +kernel
theorem dX10_item_26 : decode cX10_item 26 = .ok (.ifCond .ne 9, 3) := by decide +kernel
theorem dX10_item_29 : decode cX10_item 29 = .ok (.ldc_w 362, 3) := by decide +kernel
theorem dX10_item_32 : decode cX10_item 32 = .ok (.goto 5, 3) := by decide +kernel
theorem dX10_item_35 : decode cX10_item 35 = .ok (.ldc 158, 2) := by decide +kernel
theorem dX10_item_37 : decode cX10_item 37 = .ok (.ireturn, 1) := by decide +kernel
theorem dX10_item_38 : decode cX10_item 38 = .ok (.iload_n 2, 1) := by decide +kernel
theorem dX10_item_39 : decode cX10_item 39 = .ok (.i2l, 1) := by decide +kernel
theorem dX10_item_40 : decode cX10_item 40 = .ok (.lconst 0, 1) := by decide +kernel
theorem dX10_item_41 : decode cX10_item 41 = .ok (.aload_n 0, 1) := by decide +kernel
theorem dX10_item_42 : decode cX10_item 42 = .ok (.getfield 37, 3) := by decide +kernel
theorem dX10_item_45 : decode cX10_item 45 = .ok (.iload_n 1, 1) := by decide +kernel
theorem dX10_item_46 : decode cX10_item 46 = .ok (.iaload, 1) := by decide +kernel
theorem dX10_item_47 : decode cX10_item 47 = .ok (.iconst 1, 1) := by decide +kernel
theorem dX10_item_48 : decode cX10_item 48 = .ok (.isub, 1) := by decide +kernel
theorem dX10_item_49 : decode cX10_item 49 = .ok (.i2l, 1) := by decide +kernel
theorem dX10_item_50 : decode cX10_item 50 = .ok (.invokestatic 80, 3) := by decide +kernel
theorem dX10_item_53 : decode cX10_item 53 = .ok (.ifCond .ne 7, 3) := by decide +kernel
theorem dX10_item_56 : decode cX10_item 56 = .ok (.ldc_w 387, 3) := by decide +kernel
theorem dX10_item_59 : decode cX10_item 59 = .ok (.ireturn, 1) := by decide +kernel
theorem dX10_item_60 : decode cX10_item 60 = .ok (.aload_n 0, 1) := by decide +kernel
theorem dX10_item_61 : decode cX10_item 61 = .ok (.getfield 40, 3) := by decide +kernel
theorem dX10_item_64 : decode cX10_item 64 = .ok (.bipush 24, 2) := by decide +kernel
theorem dX10_item_66 : decode cX10_item 66 = .ok (.iload_n 1, 1) := by decide +kernel
theorem dX10_item_67 : decode cX10_item 67 = .ok (.imul, 1) := by decide +kernel
theorem dX10_item_68 : decode cX10_item 68 = .ok (.iload_n 2, 1) := by decide +kernel
theorem dX10_item_69 : decode cX10_item 69 = .ok (.iadd, 1) := by decide +kernel
theorem dX10_item_70 : decode cX10_item 70 = .ok (.iaload, 1) := by decide +kernel
theorem dX10_item_71 : decode cX10_item 71 = .ok (.istore_n 3, 1) := by decide +kernel
theorem dX10_item_72 : decode cX10_item 72 = .ok (.aload_n 0, 1) := by decide +kernel
theorem dX10_item_73 : decode cX10_item 73 = .ok (.getfield 34, 3) := by decide +kernel
theorem dX10_item_76 : decode cX10_item 76 = .ok (.iload_n 1, 1) := by decide +kernel
theorem dX10_item_77 : decode cX10_item 77 = .ok (.iaload, 1) := by decide +kernel
theorem dX10_item_78 : decode cX10_item 78 = .ok (.iconst 1, 1) := by decide +kernel
theorem dX10_item_79 : decode cX10_item 79 = .ok (.if_icmp .ne 14, 3) := by decide +kernel
theorem dX10_item_82 : decode cX10_item 82 = .ok (.iload_n 3, 1) := by decide +kernel
theorem dX10_item_83 : decode cX10_item 83 = .ok (.ldc 79, 2) := by decide +kernel
theorem dX10_item_85 : decode cX10_item 85 = .ok (.if_icmp .ne 8, 3) := by decide +kernel
theorem dX10_item_88 : decode cX10_item 88 = .ok (.ldc 158, 2) := by decide +kernel
theorem dX10_item_90 : decode cX10_item 90 = .ok (.goto 4, 3) := by decide +kernel
theorem dX10_item_93 : decode cX10_item 93 = .ok (.iload_n 3, 1) := by decide +kernel
theorem dX10_item_94 : decode cX10_item 94 = .ok (.ireturn, 1) := by decide +kernel
theorem dX10_rest_0 : decode cX10_rest 0 = .ok (.iload_n 1, 1) := by decide +kernel
theorem dX10_rest_1 : decode cX10_rest 1 = .ok (.invokestatic 392, 3) := by decide +kernel
theorem dX10_rest_4 : decode cX10_rest 4 = .ok (.ifCond .ne 6, 3) := by decide +kernel
theorem dX10_rest_7 : decode cX10_rest 7 = .ok (.ldc 102, 2) := by decide +kernel
theorem dX10_rest_9 : decode cX10_rest 9 = .ok (.ireturn, 1) := by decide +kernel
theorem dX10_rest_10 : decode cX10_rest 10 = .ok (.aload_n 0, 1) := by decide +kernel
theorem dX10_rest_11 : decode cX10_rest 11 = .ok (.getfield 28, 3) := by decide +kernel
theorem dX10_rest_14 : decode cX10_rest 14 = .ok (.iload_n 1, 1) := by decide +kernel
theorem dX10_rest_15 : decode cX10_rest 15 = .ok (.iaload, 1) := by decide +kernel
theorem dX10_rest_16 : decode cX10_rest 16 = .ok (.iconst 3, 1) := by decide +kernel
theorem dX10_rest_17 : decode cX10_rest 17 = .ok (.if_icmp .eq 21, 3) := by decide +kernel
theorem dX10_rest_20 : decode cX10_rest 20 = .ok (.aload_n 0, 1) := by decide +kernel
theorem dX10_rest_21 : decode cX10_rest 21 = .ok (.getfield 28, 3) := by decide +kernel
theorem dX10_rest_24 : decode cX10_rest 24 = .ok (.iload_n 1, 1) := by decide +kernel
theorem dX10_rest_25 : decode cX10_rest 25 = .ok (.iaload, 1) := by decide +kernel
theorem dX10_rest_26 : decode cX10_rest 26 = .ok (.ifCond .ne 9, 3) := by decide +kernel
theorem dX10_rest_29 : decode cX10_rest 29 = .ok (.ldc_w 362, 3) := by decide +kernel
theorem dX10_rest_32 : decode cX10_rest 32 = .ok (.goto 5, 3) := by decide +kernel
theorem dX10_rest_35 : decode cX10_rest 35 = .ok (.ldc 158, 2) := by decide +kernel
theorem dX10_rest_37 : decode cX10_rest 37 = .ok (.ireturn, 1) := by decide +kernel
theorem dX10_rest_38 : decode cX10_rest 38 = .ok (.iload_n 2, 1) := by decide +kernel
theorem dX10_rest_39 : decode cX10_rest 39 = .ok (.ifCond .ne 9, 3) := by decide +kernel
theorem dX10_rest_42 : decode cX10_rest 42 = .ok (.ldc_w 304, 3) := by decide +kernel
theorem dX10_rest_45 : decode cX10_rest 45 = .ok (.goto 11, 3) := by decide +kernel
theorem dX10_rest_48 : decode cX10_rest 48 = .ok (.aload_n 0, 1) := by decide +kernel
theorem dX10_rest_49 : decode cX10_rest 49 = .ok (.getfield 31, 3) := by decide +kernel
theorem dX10_rest_52 : decode cX10_rest 52 = .ok (.iload_n 1, 1) := by decide +kernel
theorem dX10_rest_53 : decode cX10_rest 53 = .ok (.iaload, 1) := by decide +kernel
theorem dX10_rest_54 : decode cX10_rest 54 = .ok (.iload_n 2, 1) := by decide +kernel
theorem dX10_rest_55 : decode cX10_rest 55 = .ok (.irem, 1) := by decide +kernel
theorem dX10_rest_56 : decode cX10_rest 56 = .ok (.ireturn, 1) := by decide +kernel
theorem dX10_tell_0 : decode cX10_tell 0 = .ok (.aload_n 0, 1) := by decide +kernel
theorem dX10_tell_1 : decode cX10_tell 1 = .ok (.getfield 395, 3) := by decide +kernel
theorem dX10_tell_4 : decode cX10_tell 4 = .ok (.bipush 60, 2) := by decide +kernel
theorem dX10_tell_6 : decode cX10_tell 6 = .ok (.if_icmp .ne 6, 3) := by decide +kernel
theorem dX10_tell_9 : decode cX10_tell 9 = .ok (.ldc 103, 2) := by decide +kernel
theorem dX10_tell_11 : decode cX10_tell 11 = .ok (.ireturn, 1) := by decide +kernel
theorem dX10_tell_12 : decode cX10_tell 12 = .ok (.aload_n 0, 1) := by decide +kernel
theorem dX10_tell_13 : decode cX10_tell 13 = .ok (.getfield 73, 3) := by decide +kernel
theorem dX10_tell_16 : decode cX10_tell 16 = .ok (.aload_n 0, 1) := by decide +kernel
theorem dX10_tell_17 : decode cX10_tell 17 = .ok (.getfield 395, 3) := by decide +kernel
theorem dX10_tell_20 : decode cX10_tell 20 = .ok (.iload_n 1, 1) := by decide +kernel
theorem dX10_tell_21 : decode cX10_tell 21 = .ok (.iastore, 1) := by decide +kernel
theorem dX10_tell_22 : decode cX10_tell 22 = .ok (.aload_n 0, 1) := by decide +kernel
theorem dX10_tell_23 : decode cX10_tell 23 = .ok (.dup, 1) := by decide +kernel
theorem dX10_tell_24 : decode cX10_tell 24 = .ok (.getfield 395, 3) := by decide +kernel
theorem dX10_tell_27 : decode cX10_tell 27 = .ok (.iconst 1, 1) := by decide +kernel
theorem dX10_tell_28 : decode cX10_tell 28 = .ok (.iadd, 1) := by decide +kernel
theorem dX10_tell_29 : decode cX10_tell 29 = .ok (.putfield 395, 3) := by decide +kernel
theorem dX10_tell_32 : decode cX10_tell 32 = .ok (.aload_n 0, 1) := by decide +kernel
theorem dX10_tell_33 : decode cX10_tell 33 = .ok (.getfield 395, 3) := by decide +kernel
theorem dX10_tell_36 : decode cX10_tell 36 = .ok (.ireturn, 1) := by decide +kernel
theorem dX10_setAside_0 : decode cX10_setAside 0 = .ok (.iconst 0, 1) := by decide +kernel
theorem dX10_setAside_1 : decode cX10_setAside 1 = .ok (.istore_n 3, 1) := by decide +kernel
theorem dX10_setAside_2 : decode cX10_setAside 2 = .ok (.iload_n 3, 1) := by decide +kernel
theorem dX10_setAside_3 : decode cX10_setAside 3 = .ok (.sipush 3300, 3) := by decide +kernel
theorem dX10_setAside_6 : decode cX10_setAside 6 = .ok (.if_icmp .ge 15, 3) := by decide +kernel
theorem dX10_setAside_9 : decode cX10_setAside 9 = .ok (.aload_n 2, 1) := by decide +kernel
theorem dX10_setAside_10 : decode cX10_setAside 10 = .ok (.iload_n 3, 1) := by decide +kernel
theorem dX10_setAside_11 : decode cX10_setAside 11 = .ok (.aload_n 1, 1) := by decide +kernel
theorem dX10_setAside_12 : decode cX10_setAside 12 = .ok (.iload_n 3, 1) := by decide +kernel
theorem dX10_setAside_13 : decode cX10_setAside 13 = .ok (.iaload, 1) := by decide +kernel
theorem dX10_setAside_14 : decode cX10_setAside 14 = .ok (.iastore, 1) := by decide +kernel
theorem dX10_setAside_15 : decode cX10_setAside 15 = .ok (.iinc 3 1, 3) := by decide +kernel
theorem dX10_setAside_18 : decode cX10_setAside 18 = .ok (.goto (-16), 3) := by decide +kernel
theorem dX10_setAside_21 : decode cX10_setAside 21 = .ok (.return_, 1) := by decide +kernel
theorem dX10_surveyed_0 : decode cX10_surveyed 0 = .ok (.iconst 0, 1) := by decide +kernel
theorem dX10_surveyed_1 : decode cX10_surveyed 1 = .ok (.istore_n 1, 1) := by decide +kernel
theorem dX10_surveyed_2 : decode cX10_surveyed 2 = .ok (.iconst 0, 1) := by decide +kernel
theorem dX10_surveyed_3 : decode cX10_surveyed 3 = .ok (.istore_n 2, 1) := by decide +kernel
theorem dX10_surveyed_4 : decode cX10_surveyed 4 = .ok (.iload_n 2, 1) := by decide +kernel
theorem dX10_surveyed_5 : decode cX10_surveyed 5 = .ok (.bipush 9, 2) := by decide +kernel
theorem dX10_surveyed_7 : decode cX10_surveyed 7 = .ok (.if_icmp .ge 29, 3) := by decide +kernel
theorem dX10_surveyed_10 : decode cX10_surveyed 10 = .ok (.iload_n 1, 1) := by decide +kernel
theorem dX10_surveyed_11 : decode cX10_surveyed 11 = .ok (.aload_n 0, 1) := by decide +kernel
theorem dX10_surveyed_12 : decode cX10_surveyed 12 = .ok (.getfield 7, 3) := by decide +kernel
theorem dX10_surveyed_15 : decode cX10_surveyed 15 = .ok (.bipush 20, 2) := by decide +kernel
theorem dX10_surveyed_17 : decode cX10_surveyed 17 = .ok (.iload_n 2, 1) := by decide +kernel
theorem dX10_surveyed_18 : decode cX10_surveyed 18 = .ok (.iadd, 1) := by decide +kernel
theorem dX10_surveyed_19 : decode cX10_surveyed 19 = .ok (.iaload, 1) := by decide +kernel
theorem dX10_surveyed_20 : decode cX10_surveyed 20 = .ok (.ifCond .lt 7, 3) := by decide +kernel
theorem dX10_surveyed_23 : decode cX10_surveyed 23 = .ok (.iconst 1, 1) := by decide +kernel
theorem dX10_surveyed_24 : decode cX10_surveyed 24 = .ok (.goto 4, 3) := by decide +kernel
theorem dX10_surveyed_27 : decode cX10_surveyed 27 = .ok (.iconst 0, 1) := by decide +kernel
theorem dX10_surveyed_28 : decode cX10_surveyed 28 = .ok (.iadd, 1) := by decide +kernel
theorem dX10_surveyed_29 : decode cX10_surveyed 29 = .ok (.istore_n 1, 1) := by decide +kernel
theorem dX10_surveyed_30 : decode cX10_surveyed 30 = .ok (.iinc 2 1, 3) := by decide +kernel
theorem dX10_surveyed_33 : decode cX10_surveyed 33 = .ok (.goto (-29), 3) := by decide +kernel
theorem dX10_surveyed_36 : decode cX10_surveyed 36 = .ok (.iload_n 1, 1) := by decide +kernel
theorem dX10_surveyed_37 : decode cX10_surveyed 37 = .ok (.ireturn, 1) := by decide +kernel
theorem dX10_check_0 : decode cX10_check 0 = .ok (.aload_n 0, 1) := by decide +kernel
theorem dX10_check_1 : decode cX10_check 1 = .ok (.getfield 395, 3) := by decide +kernel
theorem dX10_check_4 : decode cX10_check 4 = .ok (.istore_n 3, 1) := by decide +kernel
theorem dX10_check_5 : decode cX10_check 5 = .ok (.aload_n 0, 1) := by decide +kernel
theorem dX10_check_6 : decode cX10_check 6 = .ok (.iconst 0, 1) := by decide +kernel
theorem dX10_check_7 : decode cX10_check 7 = .ok (.putfield 395, 3) := by decide +kernel
theorem dX10_check_10 : decode cX10_check 10 = .ok (.iload_n 1, 1) := by decide +kernel
theorem dX10_check_11 : decode cX10_check 11 = .ok (.i2l, 1) := by decide +kernel
theorem dX10_check_12 : decode cX10_check 12 = .ok (.lconst 1, 1) := by decide +kernel
theorem dX10_check_13 : decode cX10_check 13 = .ok (.ldc2_w 398, 3) := by decide +kernel
theorem dX10_check_16 : decode cX10_check 16 = .ok (.invokestatic 80, 3) := by decide +kernel
theorem dX10_check_19 : decode cX10_check 19 = .ok (.ifCond .eq 15, 3) := by decide +kernel
theorem dX10_check_22 : decode cX10_check 22 = .ok (.iload_n 2, 1) := by decide +kernel
theorem dX10_check_23 : decode cX10_check 23 = .ok (.i2l, 1) := by decide +kernel
theorem dX10_check_24 : decode cX10_check 24 = .ok (.lconst 0, 1) := by decide +kernel
theorem dX10_check_25 : decode cX10_check 25 = .ok (.ldc2_w 348, 3) := by decide +kernel
theorem dX10_check_28 : decode cX10_check 28 = .ok (.invokestatic 80, 3) := by decide +kernel
theorem dX10_check_31 : decode cX10_check 31 = .ok (.ifCond .ne 6, 3) := by decide +kernel
theorem dX10_check_34 : decode cX10_check 34 = .ok (.ldc 102, 2) := by decide +kernel
theorem dX10_check_36 : decode cX10_check 36 = .ok (.ireturn, 1) := by decide +kernel
theorem dX10_check_37 : decode cX10_check 37 = .ok (.aload_n 0, 1) := by decide +kernel
theorem dX10_check_38 : decode cX10_check 38 = .ok (.getfield 400, 3) := by decide +kernel
theorem dX10_check_41 : decode cX10_check 41 = .ok (.ifCond .ne 7, 3) := by decide +kernel
theorem dX10_check_44 : decode cX10_check 44 = .ok (.ldc_w 304, 3) := by decide +kernel
theorem dX10_check_47 : decode cX10_check 47 = .ok (.ireturn, 1) := by decide +kernel
theorem dX10_check_48 : decode cX10_check 48 = .ok (.aload_n 0, 1) := by decide +kernel
theorem dX10_check_49 : decode cX10_check 49 = .ok (.aload_n 0, 1) := by decide +kernel
theorem dX10_check_50 : decode cX10_check 50 = .ok (.getfield 7, 3) := by decide +kernel
theorem dX10_check_53 : decode cX10_check 53 = .ok (.aload_n 0, 1) := by decide +kernel
theorem dX10_check_54 : decode cX10_check 54 = .ok (.getfield 16, 3) := by decide +kernel
theorem dX10_check_57 : decode cX10_check 57 = .ok (.invokevirtual 404, 3) := by decide +kernel
theorem dX10_check_60 : decode cX10_check 60 = .ok (.aload_n 0, 1) := by decide +kernel
theorem dX10_check_61 : decode cX10_check 61 = .ok (.aload_n 0, 1) := by decide +kernel
theorem dX10_check_62 : decode cX10_check 62 = .ok (.getfield 13, 3) := by decide +kernel
theorem dX10_check_65 : decode cX10_check 65 = .ok (.aload_n 0, 1) := by decide +kernel
theorem dX10_check_66 : decode cX10_check 66 = .ok (.getfield 7, 3) := by decide +kernel
theorem dX10_check_69 : decode cX10_check 69 = .ok (.invokevirtual 404, 3) := by decide +kernel
theorem dX10_check_72 : decode cX10_check 72 = .ok (.iload_n 1, 1) := by decide +kernel
theorem dX10_check_73 : decode cX10_check 73 = .ok (.aload_n 0, 1) := by decide +kernel
theorem dX10_check_74 : decode cX10_check 74 = .ok (.invokevirtual 408, 3) := by decide +kernel
theorem dX10_check_77 : decode cX10_check 77 = .ok (.imul, 1) := by decide +kernel
theorem dX10_check_78 : decode cX10_check 78 = .ok (.istore 4, 2) := by decide +kernel
theorem dX10_check_80 : decode cX10_check 80 = .ok (.iconst 0, 1) := by decide +kernel
theorem dX10_check_81 : decode cX10_check 81 = .ok (.istore 5, 2) := by decide +kernel
theorem dX10_check_83 : decode cX10_check 83 = .ok (.iconst 0, 1) := by decide +kernel
theorem dX10_check_84 : decode cX10_check 84 = .ok (.istore 6, 2) := by decide +kernel
theorem dX10_check_86 : decode cX10_check 86 = .ok (.iload 6, 2) := by decide +kernel
theorem dX10_check_88 : decode cX10_check 88 = .ok (.iload_n 1, 1) := by decide +kernel
theorem dX10_check_89 : decode cX10_check 89 = .ok (.if_icmp .ge 70, 3) := by decide +kernel
theorem dX10_check_92 : decode cX10_check 92 = .ok (.iload 4, 2) := by decide +kernel
theorem dX10_check_94 : decode cX10_check 94 = .ok (.bipush 60, 2) := by decide +kernel
theorem dX10_check_96 : decode cX10_check 96 = .ok (.if_icmp .gt 63, 3) := by decide +kernel
theorem dX10_check_99 : decode cX10_check 99 = .ok (.iconst 0, 1) := by decide +kernel
theorem dX10_check_100 : decode cX10_check 100 = .ok (.istore 7, 2) := by decide +kernel
theorem dX10_check_102 : decode cX10_check 102 = .ok (.iload 7, 2) := by decide +kernel
theorem dX10_check_104 : decode cX10_check 104 = .ok (.bipush 9, 2) := by decide +kernel
theorem dX10_check_106 : decode cX10_check 106 = .ok (.if_icmp .ge 47, 3) := by decide +kernel
theorem dX10_check_109 : decode cX10_check 109 = .ok (.aload_n 0, 1) := by decide +kernel
theorem dX10_check_110 : decode cX10_check 110 = .ok (.getfield 7, 3) := by decide +kernel
theorem dX10_check_113 : decode cX10_check 113 = .ok (.bipush 20, 2) := by decide +kernel
theorem dX10_check_115 : decode cX10_check 115 = .ok (.iload 7, 2) := by decide +kernel
theorem dX10_check_117 : decode cX10_check 117 = .ok (.iadd, 1) := by decide +kernel
theorem dX10_check_118 : decode cX10_check 118 = .ok (.iaload, 1) := by decide +kernel
theorem dX10_check_119 : decode cX10_check 119 = .ok (.ifCond .lt 28, 3) := by decide +kernel
theorem dX10_check_122 : decode cX10_check 122 = .ok (.aload_n 0, 1) := by decide +kernel
theorem dX10_check_123 : decode cX10_check 123 = .ok (.getfield 76, 3) := by decide +kernel
theorem dX10_check_126 : decode cX10_check 126 = .ok (.iload 5, 2) := by decide +kernel
theorem dX10_check_128 : decode cX10_check 128 = .ok (.aload_n 0, 1) := by decide +kernel
theorem dX10_check_129 : decode cX10_check 129 = .ok (.aload_n 0, 1) := by decide +kernel
theorem dX10_check_130 : decode cX10_check 130 = .ok (.getfield 7, 3) := by decide +kernel
theorem dX10_check_133 : decode cX10_check 133 = .ok (.bipush 20, 2) := by decide +kernel
theorem dX10_check_135 : decode cX10_check 135 = .ok (.iload 7, 2) := by decide +kernel
theorem dX10_check_137 : decode cX10_check 137 = .ok (.iadd, 1) := by decide +kernel
theorem dX10_check_138 : decode cX10_check 138 = .ok (.iaload, 1) := by decide +kernel
theorem dX10_check_139 : decode cX10_check 139 = .ok (.iload_n 2, 1) := by decide +kernel
theorem dX10_check_140 : decode cX10_check 140 = .ok (.invokevirtual 383, 3) := by decide +kernel
theorem dX10_check_143 : decode cX10_check 143 = .ok (.iastore, 1) := by decide +kernel
theorem dX10_check_144 : decode cX10_check 144 = .ok (.iinc 5 1, 3) := by decide +kernel
theorem dX10_check_147 : decode cX10_check 147 = .ok (.iinc 7 1, 3) := by decide +kernel
theorem dX10_check_150 : decode cX10_check 150 = .ok (.goto (-48), 3) := by decide +kernel
theorem dX10_check_153 : decode cX10_check 153 = .ok (.iinc 6 1, 3) := by decide +kernel
theorem dX10_check_156 : decode cX10_check 156 = .ok (.goto (-70), 3) := by decide +kernel
theorem dX10_check_159 : decode cX10_check 159 = .ok (.aload_n 0, 1) := by decide +kernel
theorem dX10_check_160 : decode cX10_check 160 = .ok (.aload_n 0, 1) := by decide +kernel
theorem dX10_check_161 : decode cX10_check 161 = .ok (.getfield 16, 3) := by decide +kernel
theorem dX10_check_164 : decode cX10_check 164 = .ok (.aload_n 0, 1) := by decide +kernel
theorem dX10_check_165 : decode cX10_check 165 = .ok (.getfield 7, 3) := by decide +kernel
theorem dX10_check_168 : decode cX10_check 168 = .ok (.invokevirtual 404, 3) := by decide +kernel
theorem dX10_check_171 : decode cX10_check 171 = .ok (.iload 4, 2) := by decide +kernel
theorem dX10_check_173 : decode cX10_check 173 = .ok (.bipush 60, 2) := by decide +kernel
theorem dX10_check_175 : decode cX10_check 175 = .ok (.if_icmp .le 6, 3) := by decide +kernel
theorem dX10_check_178 : decode cX10_check 178 = .ok (.ldc 103, 2) := by decide +kernel
theorem dX10_check_180 : decode cX10_check 180 = .ok (.ireturn, 1) := by decide +kernel
theorem dX10_check_181 : decode cX10_check 181 = .ok (.iconst 0, 1) := by decide +kernel
theorem dX10_check_182 : decode cX10_check 182 = .ok (.istore 6, 2) := by decide +kernel
theorem dX10_check_184 : decode cX10_check 184 = .ok (.iload 6, 2) := by decide +kernel
theorem dX10_check_186 : decode cX10_check 186 = .ok (.iload_n 3, 1) := by decide +kernel
theorem dX10_check_187 : decode cX10_check 187 = .ok (.if_icmp .ge 33, 3) := by decide +kernel
theorem dX10_check_190 : decode cX10_check 190 = .ok (.iload 6, 2) := by decide +kernel
theorem dX10_check_192 : decode cX10_check 192 = .ok (.iload 4, 2) := by decide +kernel
theorem dX10_check_194 : decode cX10_check 194 = .ok (.if_icmp .ge 26, 3) := by decide +kernel
theorem dX10_check_197 : decode cX10_check 197 = .ok (.aload_n 0, 1) := by decide +kernel
theorem dX10_check_198 : decode cX10_check 198 = .ok (.getfield 73, 3) := by decide +kernel
theorem dX10_check_201 : decode cX10_check 201 = .ok (.iload 6, 2) := by decide +kernel
theorem dX10_check_203 : decode cX10_check 203 = .ok (.iaload, 1) := by decide +kernel
theorem dX10_check_204 : decode cX10_check 204 = .ok (.aload_n 0, 1) := by decide +kernel
theorem dX10_check_205 : decode cX10_check 205 = .ok (.getfield 76, 3) := by decide +kernel
theorem dX10_check_208 : decode cX10_check 208 = .ok (.iload 6, 2) := by decide +kernel
theorem dX10_check_210 : decode cX10_check 210 = .ok (.iaload, 1) := by decide +kernel
theorem dX10_check_211 : decode cX10_check 211 = .ok (.if_icmp .ne 9, 3) := by decide +kernel
theorem dX10_check_214 : decode cX10_check 214 = .ok (.iinc 6 1, 3) := by decide +kernel
theorem dX10_check_217 : decode cX10_check 217 = .ok (.goto (-33), 3) := by decide +kernel
theorem dX10_check_220 : decode cX10_check 220 = .ok (.iload 6, 2) := by decide +kernel
theorem dX10_check_222 : decode cX10_check 222 = .ok (.iload_n 3, 1) := by decide +kernel
theorem dX10_check_223 : decode cX10_check 223 = .ok (.if_icmp .ne 14, 3) := by decide +kernel
theorem dX10_check_226 : decode cX10_check 226 = .ok (.iload 6, 2) := by decide +kernel
theorem dX10_check_228 : decode cX10_check 228 = .ok (.iload 4, 2) := by decide +kernel
theorem dX10_check_230 : decode cX10_check 230 = .ok (.if_icmp .ne 7, 3) := by decide +kernel
theorem dX10_check_233 : decode cX10_check 233 = .ok (.iconst 0, 1) := by decide +kernel
theorem dX10_check_234 : decode cX10_check 234 = .ok (.goto 7, 3) := by decide +kernel
theorem dX10_check_237 : decode cX10_check 237 = .ok (.iconst 1, 1) := by decide +kernel
theorem dX10_check_238 : decode cX10_check 238 = .ok (.iload 6, 2) := by decide +kernel
theorem dX10_check_240 : decode cX10_check 240 = .ok (.iadd, 1) := by decide +kernel
theorem dX10_check_241 : decode cX10_check 241 = .ok (.ireturn, 1) := by decide +kernel
theorem dX10_keep_0 : decode cX10_keep 0 = .ok (.aload_n 0, 1) := by decide +kernel
theorem dX10_keep_1 : decode cX10_keep 1 = .ok (.iconst 1, 1) := by decide +kernel
theorem dX10_keep_2 : decode cX10_keep 2 = .ok (.putfield 400, 3) := by decide +kernel
theorem dX10_keep_5 : decode cX10_keep 5 = .ok (.aload_n 0, 1) := by decide +kernel
theorem dX10_keep_6 : decode cX10_keep 6 = .ok (.aload_n 0, 1) := by decide +kernel
theorem dX10_keep_7 : decode cX10_keep 7 = .ok (.getfield 7, 3) := by decide +kernel
theorem dX10_keep_10 : decode cX10_keep 10 = .ok (.aload_n 0, 1) := by decide +kernel
theorem dX10_keep_11 : decode cX10_keep 11 = .ok (.getfield 13, 3) := by decide +kernel
theorem dX10_keep_14 : decode cX10_keep 14 = .ok (.invokevirtual 404, 3) := by decide +kernel
theorem dX10_keep_17 : decode cX10_keep 17 = .ok (.aload_n 0, 1) := by decide +kernel
theorem dX10_keep_18 : decode cX10_keep 18 = .ok (.getfield 7, 3) := by decide +kernel
theorem dX10_keep_21 : decode cX10_keep 21 = .ok (.iconst 0, 1) := by decide +kernel
theorem dX10_keep_22 : decode cX10_keep 22 = .ok (.iaload, 1) := by decide +kernel
theorem dX10_keep_23 : decode cX10_keep 23 = .ok (.ireturn, 1) := by decide +kernel
theorem dX10_back_0 : decode cX10_back 0 = .ok (.aload_n 0, 1) := by decide +kernel
theorem dX10_back_1 : decode cX10_back 1 = .ok (.getfield 400, 3) := by decide +kernel
theorem dX10_back_4 : decode cX10_back 4 = .ok (.ifCond .ne 7, 3) := by decide +kernel
theorem dX10_back_7 : decode cX10_back 7 = .ok (.ldc_w 304, 3) := by decide +kernel
theorem dX10_back_10 : decode cX10_back 10 = .ok (.ireturn, 1) := by decide +kernel
theorem dX10_back_11 : decode cX10_back 11 = .ok (.aload_n 0, 1) := by decide +kernel
theorem dX10_back_12 : decode cX10_back 12 = .ok (.aload_n 0, 1) := by decide +kernel
theorem dX10_back_13 : decode cX10_back 13 = .ok (.getfield 13, 3) := by decide +kernel
theorem dX10_back_16 : decode cX10_back 16 = .ok (.aload_n 0, 1) := by decide +kernel
theorem dX10_back_17 : decode cX10_back 17 = .ok (.getfield 7, 3) := by decide +kernel
theorem dX10_back_20 : decode cX10_back 20 = .ok (.invokevirtual 404, 3) := by decide +kernel
theorem dX10_back_23 : decode cX10_back 23 = .ok (.aload_n 0, 1) := by decide +kernel
theorem dX10_back_24 : decode cX10_back 24 = .ok (.getfield 7, 3) := by decide +kernel
theorem dX10_back_27 : decode cX10_back 27 = .ok (.iconst 0, 1) := by decide +kernel
theorem dX10_back_28 : decode cX10_back 28 = .ok (.iaload, 1) := by decide +kernel
theorem dX10_back_29 : decode cX10_back 29 = .ok (.ireturn, 1) := by decide +kernel
theorem dX10_count_0 : decode cX10_count 0 = .ok (.iconst 0, 1) := by decide +kernel
theorem dX10_count_1 : decode cX10_count 1 = .ok (.istore_n 2, 1) := by decide +kernel
theorem dX10_count_2 : decode cX10_count 2 = .ok (.iload_n 1, 1) := by decide +kernel
theorem dX10_count_3 : decode cX10_count 3 = .ok (.tableswitch 136 0 8 #[49, 56, 93, 100, 107, 114, 119, 124, 129], 49) := by decide +kernel
theorem dX10_count_52 : decode cX10_count 52 = .ok (.aload_n 0, 1) := by decide +kernel
theorem dX10_count_53 : decode cX10_count 53 = .ok (.getfield 7, 3) := by decide +kernel
theorem dX10_count_56 : decode cX10_count 56 = .ok (.iconst 0, 1) := by decide +kernel
theorem dX10_count_57 : decode cX10_count 57 = .ok (.iaload, 1) := by decide +kernel
theorem dX10_count_58 : decode cX10_count 58 = .ok (.ireturn, 1) := by decide +kernel
theorem dX10_count_59 : decode cX10_count 59 = .ok (.iconst 0, 1) := by decide +kernel
theorem dX10_count_60 : decode cX10_count 60 = .ok (.istore_n 3, 1) := by decide +kernel
theorem dX10_count_61 : decode cX10_count 61 = .ok (.iload_n 3, 1) := by decide +kernel
theorem dX10_count_62 : decode cX10_count 62 = .ok (.aload_n 0, 1) := by decide +kernel
theorem dX10_count_63 : decode cX10_count 63 = .ok (.getfield 7, 3) := by decide +kernel
theorem dX10_count_66 : decode cX10_count 66 = .ok (.iconst 0, 1) := by decide +kernel
theorem dX10_count_67 : decode cX10_count 67 = .ok (.iaload, 1) := by decide +kernel
theorem dX10_count_68 : decode cX10_count 68 = .ok (.if_icmp .ge 26, 3) := by decide +kernel
theorem dX10_count_71 : decode cX10_count 71 = .ok (.iload_n 2, 1) := by decide +kernel
theorem dX10_count_72 : decode cX10_count 72 = .ok (.aload_n 0, 1) := by decide +kernel
theorem dX10_count_73 : decode cX10_count 73 = .ok (.iload_n 3, 1) := by decide +kernel
theorem dX10_count_74 : decode cX10_count 74 = .ok (.iconst 5, 1) := by decide +kernel
theorem dX10_count_75 : decode cX10_count 75 = .ok (.invokevirtual 111, 3) := by decide +kernel
theorem dX10_count_78 : decode cX10_count 78 = .ok (.ifCond .lt 7, 3) := by decide +kernel
theorem dX10_count_81 : decode cX10_count 81 = .ok (.iconst 1, 1) := by decide +kernel
theorem dX10_count_82 : decode cX10_count 82 = .ok (.goto 4, 3) := by decide +kernel
theorem dX10_count_85 : decode cX10_count 85 = .ok (.iconst 0, 1) := by decide +kernel
theorem dX10_count_86 : decode cX10_count 86 = .ok (.iadd, 1) := by decide +kernel
theorem dX10_count_87 : decode cX10_count 87 = .ok (.istore_n 2, 1) := by decide +kernel
theorem dX10_count_88 : decode cX10_count 88 = .ok (.iinc 3 1, 3) := by decide +kernel
theorem dX10_count_91 : decode cX10_count 91 = .ok (.goto (-30), 3) := by decide +kernel
theorem dX10_count_94 : decode cX10_count 94 = .ok (.iload_n 2, 1) := by decide +kernel
theorem dX10_count_95 : decode cX10_count 95 = .ok (.ireturn, 1) := by decide +kernel
theorem dX10_count_96 : decode cX10_count 96 = .ok (.aload_n 0, 1) := by decide +kernel
theorem dX10_count_97 : decode cX10_count 97 = .ok (.getfield 7, 3) := by decide +kernel
theorem dX10_count_100 : decode cX10_count 100 = .ok (.iconst 1, 1) := by decide +kernel
theorem dX10_count_101 : decode cX10_count 101 = .ok (.iaload, 1) := by decide +kernel
theorem dX10_count_102 : decode cX10_count 102 = .ok (.ireturn, 1) := by decide +kernel
theorem dX10_count_103 : decode cX10_count 103 = .ok (.aload_n 0, 1) := by decide +kernel
theorem dX10_count_104 : decode cX10_count 104 = .ok (.getfield 7, 3) := by decide +kernel
theorem dX10_count_107 : decode cX10_count 107 = .ok (.iconst 2, 1) := by decide +kernel
theorem dX10_count_108 : decode cX10_count 108 = .ok (.iaload, 1) := by decide +kernel
theorem dX10_count_109 : decode cX10_count 109 = .ok (.ireturn, 1) := by decide +kernel
theorem dX10_count_110 : decode cX10_count 110 = .ok (.aload_n 0, 1) := by decide +kernel
theorem dX10_count_111 : decode cX10_count 111 = .ok (.getfield 7, 3) := by decide +kernel
theorem dX10_count_114 : decode cX10_count 114 = .ok (.iconst 3, 1) := by decide +kernel
theorem dX10_count_115 : decode cX10_count 115 = .ok (.iaload, 1) := by decide +kernel
theorem dX10_count_116 : decode cX10_count 116 = .ok (.ireturn, 1) := by decide +kernel
theorem dX10_count_117 : decode cX10_count 117 = .ok (.aload_n 0, 1) := by decide +kernel
theorem dX10_count_118 : decode cX10_count 118 = .ok (.invokevirtual 408, 3) := by decide +kernel
theorem dX10_count_121 : decode cX10_count 121 = .ok (.ireturn, 1) := by decide +kernel
theorem dX10_count_122 : decode cX10_count 122 = .ok (.aload_n 0, 1) := by decide +kernel
theorem dX10_count_123 : decode cX10_count 123 = .ok (.getfield 395, 3) := by decide +kernel
theorem dX10_count_126 : decode cX10_count 126 = .ok (.ireturn, 1) := by decide +kernel
theorem dX10_count_127 : decode cX10_count 127 = .ok (.aload_n 0, 1) := by decide +kernel
theorem dX10_count_128 : decode cX10_count 128 = .ok (.getfield 166, 3) := by decide +kernel
theorem dX10_count_131 : decode cX10_count 131 = .ok (.ireturn, 1) := by decide +kernel
theorem dX10_count_132 : decode cX10_count 132 = .ok (.aload_n 0, 1) := by decide +kernel
theorem dX10_count_133 : decode cX10_count 133 = .ok (.getfield 7, 3) := by decide +kernel
theorem dX10_count_136 : decode cX10_count 136 = .ok (.iconst 4, 1) := by decide +kernel
theorem dX10_count_137 : decode cX10_count 137 = .ok (.iaload, 1) := by decide +kernel
theorem dX10_count_138 : decode cX10_count 138 = .ok (.ireturn, 1) := by decide +kernel
theorem dX10_count_139 : decode cX10_count 139 = .ok (.ldc 102, 2) := by decide +kernel
theorem dX10_count_141 : decode cX10_count 141 = .ok (.ireturn, 1) := by decide +kernel
theorem dJ6_bitCount_0f7a4_0 : decode cJ6_bitCount_0f7a4 0 = .ok (.iload_n 0, 1) := by decide +kernel
theorem dJ6_bitCount_0f7a4_1 : decode cJ6_bitCount_0f7a4 1 = .ok (.iload_n 0, 1) := by decide +kernel
theorem dJ6_bitCount_0f7a4_2 : decode cJ6_bitCount_0f7a4 2 = .ok (.iconst 1, 1) := by decide +kernel
theorem dJ6_bitCount_0f7a4_3 : decode cJ6_bitCount_0f7a4 3 = .ok (.iushr, 1) := by decide +kernel
theorem dJ6_bitCount_0f7a4_4 : decode cJ6_bitCount_0f7a4 4 = .ok (.ldc_w 265, 3) := by decide +kernel
theorem dJ6_bitCount_0f7a4_7 : decode cJ6_bitCount_0f7a4 7 = .ok (.iand, 1) := by decide +kernel
theorem dJ6_bitCount_0f7a4_8 : decode cJ6_bitCount_0f7a4 8 = .ok (.isub, 1) := by decide +kernel
theorem dJ6_bitCount_0f7a4_9 : decode cJ6_bitCount_0f7a4 9 = .ok (.istore_n 0, 1) := by decide +kernel
theorem dJ6_bitCount_0f7a4_10 : decode cJ6_bitCount_0f7a4 10 = .ok (.iload_n 0, 1) := by decide +kernel
theorem dJ6_bitCount_0f7a4_11 : decode cJ6_bitCount_0f7a4 11 = .ok (.ldc_w 266, 3) := by decide +kernel
theorem dJ6_bitCount_0f7a4_14 : decode cJ6_bitCount_0f7a4 14 = .ok (.iand, 1) := by decide +kernel
theorem dJ6_bitCount_0f7a4_15 : decode cJ6_bitCount_0f7a4 15 = .ok (.iload_n 0, 1) := by decide +kernel
theorem dJ6_bitCount_0f7a4_16 : decode cJ6_bitCount_0f7a4 16 = .ok (.iconst 2, 1) := by decide +kernel
theorem dJ6_bitCount_0f7a4_17 : decode cJ6_bitCount_0f7a4 17 = .ok (.iushr, 1) := by decide +kernel
theorem dJ6_bitCount_0f7a4_18 : decode cJ6_bitCount_0f7a4 18 = .ok (.ldc_w 266, 3) := by decide +kernel
theorem dJ6_bitCount_0f7a4_21 : decode cJ6_bitCount_0f7a4 21 = .ok (.iand, 1) := by decide +kernel
theorem dJ6_bitCount_0f7a4_22 : decode cJ6_bitCount_0f7a4 22 = .ok (.iadd, 1) := by decide +kernel
theorem dJ6_bitCount_0f7a4_23 : decode cJ6_bitCount_0f7a4 23 = .ok (.istore_n 0, 1) := by decide +kernel
theorem dJ6_bitCount_0f7a4_24 : decode cJ6_bitCount_0f7a4 24 = .ok (.iload_n 0, 1) := by decide +kernel
theorem dJ6_bitCount_0f7a4_25 : decode cJ6_bitCount_0f7a4 25 = .ok (.iload_n 0, 1) := by decide +kernel
theorem dJ6_bitCount_0f7a4_26 : decode cJ6_bitCount_0f7a4 26 = .ok (.iconst 4, 1) := by decide +kernel
theorem dJ6_bitCount_0f7a4_27 : decode cJ6_bitCount_0f7a4 27 = .ok (.iushr, 1) := by decide +kernel
theorem dJ6_bitCount_0f7a4_28 : decode cJ6_bitCount_0f7a4 28 = .ok (.iadd, 1) := by decide +kernel
theorem dJ6_bitCount_0f7a4_29 : decode cJ6_bitCount_0f7a4 29 = .ok (.ldc_w 267, 3) := by decide +kernel
theorem dJ6_bitCount_0f7a4_32 : decode cJ6_bitCount_0f7a4 32 = .ok (.iand, 1) := by decide +kernel
theorem dJ6_bitCount_0f7a4_33 : decode cJ6_bitCount_0f7a4 33 = .ok (.istore_n 0, 1) := by decide +kernel
theorem dJ6_bitCount_0f7a4_34 : decode cJ6_bitCount_0f7a4 34 = .ok (.iload_n 0, 1) := by decide +kernel
theorem dJ6_bitCount_0f7a4_35 : decode cJ6_bitCount_0f7a4 35 = .ok (.iload_n 0, 1) := by decide +kernel
theorem dJ6_bitCount_0f7a4_36 : decode cJ6_bitCount_0f7a4 36 = .ok (.bipush 8, 2) := by decide +kernel
theorem dJ6_bitCount_0f7a4_38 : decode cJ6_bitCount_0f7a4 38 = .ok (.iushr, 1) := by decide +kernel
theorem dJ6_bitCount_0f7a4_39 : decode cJ6_bitCount_0f7a4 39 = .ok (.iadd, 1) := by decide +kernel
theorem dJ6_bitCount_0f7a4_40 : decode cJ6_bitCount_0f7a4 40 = .ok (.istore_n 0, 1) := by decide +kernel
theorem dJ6_bitCount_0f7a4_41 : decode cJ6_bitCount_0f7a4 41 = .ok (.iload_n 0, 1) := by decide +kernel
theorem dJ6_bitCount_0f7a4_42 : decode cJ6_bitCount_0f7a4 42 = .ok (.iload_n 0, 1) := by decide +kernel
theorem dJ6_bitCount_0f7a4_43 : decode cJ6_bitCount_0f7a4 43 = .ok (.bipush 16, 2) := by decide +kernel
theorem dJ6_bitCount_0f7a4_45 : decode cJ6_bitCount_0f7a4 45 = .ok (.iushr, 1) := by decide +kernel
theorem dJ6_bitCount_0f7a4_46 : decode cJ6_bitCount_0f7a4 46 = .ok (.iadd, 1) := by decide +kernel
theorem dJ6_bitCount_0f7a4_47 : decode cJ6_bitCount_0f7a4 47 = .ok (.istore_n 0, 1) := by decide +kernel
theorem dJ6_bitCount_0f7a4_48 : decode cJ6_bitCount_0f7a4 48 = .ok (.iload_n 0, 1) := by decide +kernel
theorem dJ6_bitCount_0f7a4_49 : decode cJ6_bitCount_0f7a4 49 = .ok (.bipush 63, 2) := by decide +kernel
theorem dJ6_bitCount_0f7a4_51 : decode cJ6_bitCount_0f7a4 51 = .ok (.iand, 1) := by decide +kernel
theorem dJ6_bitCount_0f7a4_52 : decode cJ6_bitCount_0f7a4 52 = .ok (.ireturn, 1) := by decide +kernel
theorem dJ9_abs_0f7a4_0 : decode cJ9_abs_0f7a4 0 = .ok (.iload_n 0, 1) := by decide +kernel
theorem dJ9_abs_0f7a4_1 : decode cJ9_abs_0f7a4 1 = .ok (.ifCond .ge 8, 3) := by decide +kernel
theorem dJ9_abs_0f7a4_4 : decode cJ9_abs_0f7a4 4 = .ok (.iload_n 0, 1) := by decide +kernel
theorem dJ9_abs_0f7a4_5 : decode cJ9_abs_0f7a4 5 = .ok (.ineg, 1) := by decide +kernel
theorem dJ9_abs_0f7a4_6 : decode cJ9_abs_0f7a4 6 = .ok (.goto 4, 3) := by decide +kernel
theorem dJ9_abs_0f7a4_9 : decode cJ9_abs_0f7a4 9 = .ok (.iload_n 0, 1) := by decide +kernel
theorem dJ9_abs_0f7a4_10 : decode cJ9_abs_0f7a4 10 = .ok (.ireturn, 1) := by decide +kernel
theorem dJ9_max_7cf53_0 : decode cJ9_max_7cf53 0 = .ok (.iload_n 0, 1) := by decide +kernel
theorem dJ9_max_7cf53_1 : decode cJ9_max_7cf53 1 = .ok (.iload_n 1, 1) := by decide +kernel
theorem dJ9_max_7cf53_2 : decode cJ9_max_7cf53 2 = .ok (.if_icmp .lt 7, 3) := by decide +kernel
theorem dJ9_max_7cf53_5 : decode cJ9_max_7cf53 5 = .ok (.iload_n 0, 1) := by decide +kernel
theorem dJ9_max_7cf53_6 : decode cJ9_max_7cf53 6 = .ok (.goto 4, 3) := by decide +kernel
theorem dJ9_max_7cf53_9 : decode cJ9_max_7cf53 9 = .ok (.iload_n 1, 1) := by decide +kernel
theorem dJ9_max_7cf53_10 : decode cJ9_max_7cf53 10 = .ok (.ireturn, 1) := by decide +kernel
theorem dJ9_max_f86c9_0 : decode cJ9_max_f86c9 0 = .ok (.lload_n 0, 1) := by decide +kernel
theorem dJ9_max_f86c9_1 : decode cJ9_max_f86c9 1 = .ok (.lload_n 2, 1) := by decide +kernel
theorem dJ9_max_f86c9_2 : decode cJ9_max_f86c9 2 = .ok (.lcmp, 1) := by decide +kernel
theorem dJ9_max_f86c9_3 : decode cJ9_max_f86c9 3 = .ok (.ifCond .lt 7, 3) := by decide +kernel
theorem dJ9_max_f86c9_6 : decode cJ9_max_f86c9 6 = .ok (.lload_n 0, 1) := by decide +kernel
theorem dJ9_max_f86c9_7 : decode cJ9_max_f86c9 7 = .ok (.goto 4, 3) := by decide +kernel
theorem dJ9_max_f86c9_10 : decode cJ9_max_f86c9 10 = .ok (.lload_n 2, 1) := by decide +kernel
theorem dJ9_max_f86c9_11 : decode cJ9_max_f86c9 11 = .ok (.lreturn, 1) := by decide +kernel
theorem dJ9_min_7cf53_0 : decode cJ9_min_7cf53 0 = .ok (.iload_n 0, 1) := by decide +kernel
theorem dJ9_min_7cf53_1 : decode cJ9_min_7cf53 1 = .ok (.iload_n 1, 1) := by decide +kernel
theorem dJ9_min_7cf53_2 : decode cJ9_min_7cf53 2 = .ok (.if_icmp .gt 7, 3) := by decide +kernel
theorem dJ9_min_7cf53_5 : decode cJ9_min_7cf53 5 = .ok (.iload_n 0, 1) := by decide +kernel
theorem dJ9_min_7cf53_6 : decode cJ9_min_7cf53 6 = .ok (.goto 4, 3) := by decide +kernel
theorem dJ9_min_7cf53_9 : decode cJ9_min_7cf53 9 = .ok (.iload_n 1, 1) := by decide +kernel
theorem dJ9_min_7cf53_10 : decode cJ9_min_7cf53 10 = .ok (.ireturn, 1) := by decide +kernel
theorem dJ9_min_f86c9_0 : decode cJ9_min_f86c9 0 = .ok (.lload_n 0, 1) := by decide +kernel
theorem dJ9_min_f86c9_1 : decode cJ9_min_f86c9 1 = .ok (.lload_n 2, 1) := by decide +kernel
theorem dJ9_min_f86c9_2 : decode cJ9_min_f86c9 2 = .ok (.lcmp, 1) := by decide +kernel
theorem dJ9_min_f86c9_3 : decode cJ9_min_f86c9 3 = .ok (.ifCond .gt 7, 3) := by decide +kernel
theorem dJ9_min_f86c9_6 : decode cJ9_min_f86c9 6 = .ok (.lload_n 0, 1) := by decide +kernel
theorem dJ9_min_f86c9_7 : decode cJ9_min_f86c9 7 = .ok (.goto 4, 3) := by decide +kernel
theorem dJ9_min_f86c9_10 : decode cJ9_min_f86c9 10 = .ok (.lload_n 2, 1) := by decide +kernel
theorem dJ9_min_f86c9_11 : decode cJ9_min_f86c9 11 = .ok (.lreturn, 1) := by decide +kernel
theorem dJ0_length_8abf5_0 : decode cJ0_length_8abf5 0 = .ok (.aload_n 0, 1) := by decide +kernel
theorem dJ0_length_8abf5_1 : decode cJ0_length_8abf5 1 = .ok (.getfield 9, 3) := by decide +kernel
theorem dJ0_length_8abf5_4 : decode cJ0_length_8abf5 4 = .ok (.arraylength, 1) := by decide +kernel
theorem dJ0_length_8abf5_5 : decode cJ0_length_8abf5 5 = .ok (.aload_n 0, 1) := by decide +kernel
theorem dJ0_length_8abf5_6 : decode cJ0_length_8abf5 6 = .ok (.invokevirtual 335, 3) := by decide +kernel
theorem dJ0_length_8abf5_9 : decode cJ0_length_8abf5 9 = .ok (.ishr, 1) := by decide +kernel
theorem dJ0_length_8abf5_10 : decode cJ0_length_8abf5 10 = .ok (.ireturn, 1) := by decide +kernel
theorem dJ0_charAt_5068e_0 : decode cJ0_charAt_5068e 0 = .ok (.aload_n 0, 1) := by decide +kernel
theorem dJ0_charAt_5068e_1 : decode cJ0_charAt_5068e 1 = .ok (.invokevirtual 492, 3) := by decide +kernel
theorem dJ0_charAt_5068e_4 : decode cJ0_charAt_5068e 4 = .ok (.ifCond .eq 12, 3) := by decide +kernel
theorem dJ0_charAt_5068e_7 : decode cJ0_charAt_5068e 7 = .ok (.aload_n 0, 1) := by decide +kernel
theorem dJ0_charAt_5068e_8 : decode cJ0_charAt_5068e 8 = .ok (.getfield 9, 3) := by decide +kernel
theorem dJ0_charAt_5068e_11 : decode cJ0_charAt_5068e 11 = .ok (.iload_n 1, 1) := by decide +kernel
theorem dJ0_charAt_5068e_12 : decode cJ0_charAt_5068e 12 = .ok (.invokestatic 495, 3) := by decide +kernel
theorem dJ0_charAt_5068e_15 : decode cJ0_charAt_5068e 15 = .ok (.ireturn, 1) := by decide +kernel
theorem dJ0_charAt_5068e_16 : decode cJ0_charAt_5068e 16 = .ok (.aload_n 0, 1) := by decide +kernel
theorem dJ0_charAt_5068e_17 : decode cJ0_charAt_5068e 17 = .ok (.getfield 9, 3) := by decide +kernel
theorem dJ0_charAt_5068e_20 : decode cJ0_charAt_5068e 20 = .ok (.iload_n 1, 1) := by decide +kernel
theorem dJ0_charAt_5068e_21 : decode cJ0_charAt_5068e 21 = .ok (.invokestatic 498, 3) := by decide +kernel
theorem dJ0_charAt_5068e_24 : decode cJ0_charAt_5068e 24 = .ok (.ireturn, 1) := by decide +kernel
theorem dJ0_coder_7d493_0 : decode cJ0_coder_7d493 0 = .ok (.getstatic 38, 3) := by decide +kernel
theorem dJ0_coder_7d493_3 : decode cJ0_coder_7d493 3 = .ok (.ifCond .eq 10, 3) := by decide +kernel
theorem dJ0_coder_7d493_6 : decode cJ0_coder_7d493 6 = .ok (.aload_n 0, 1) := by decide +kernel
theorem dJ0_coder_7d493_7 : decode cJ0_coder_7d493 7 = .ok (.getfield 15, 3) := by decide +kernel
theorem dJ0_coder_7d493_10 : decode cJ0_coder_7d493 10 = .ok (.goto 4, 3) := by decide +kernel
theorem dJ0_coder_7d493_13 : decode cJ0_coder_7d493 13 = .ok (.iconst 1, 1) := by decide +kernel
theorem dJ0_coder_7d493_14 : decode cJ0_coder_7d493 14 = .ok (.ireturn, 1) := by decide +kernel
theorem dJ0_isLatin1_aae02_0 : decode cJ0_isLatin1_aae02 0 = .ok (.getstatic 38, 3) := by decide +kernel
theorem dJ0_isLatin1_aae02_3 : decode cJ0_isLatin1_aae02 3 = .ok (.ifCond .eq 14, 3) := by decide +kernel
theorem dJ0_isLatin1_aae02_6 : decode cJ0_isLatin1_aae02 6 = .ok (.aload_n 0, 1) := by decide +kernel
theorem dJ0_isLatin1_aae02_7 : decode cJ0_isLatin1_aae02 7 = .ok (.getfield 15, 3) := by decide +kernel
theorem dJ0_isLatin1_aae02_10 : decode cJ0_isLatin1_aae02 10 = .ok (.ifCond .ne 7, 3) := by decide +kernel
theorem dJ0_isLatin1_aae02_13 : decode cJ0_isLatin1_aae02 13 = .ok (.iconst 1, 1) := by decide +kernel
theorem dJ0_isLatin1_aae02_14 : decode cJ0_isLatin1_aae02 14 = .ok (.goto 4, 3) := by decide +kernel
theorem dJ0_isLatin1_aae02_17 : decode cJ0_isLatin1_aae02 17 = .ok (.iconst 0, 1) := by decide +kernel
theorem dJ0_isLatin1_aae02_18 : decode cJ0_isLatin1_aae02 18 = .ok (.ireturn, 1) := by decide +kernel
theorem dJ0_checkIndex_df160_0 : decode cJ0_checkIndex_df160 0 = .ok (.iload_n 0, 1) := by decide +kernel
theorem dJ0_checkIndex_df160_1 : decode cJ0_checkIndex_df160 1 = .ok (.iload_n 1, 1) := by decide +kernel
theorem dJ0_checkIndex_df160_2 : decode cJ0_checkIndex_df160 2 = .ok (.getstatic 1053, 3) := by decide +kernel
theorem dJ0_checkIndex_df160_5 : decode cJ0_checkIndex_df160 5 = .ok (.invokestatic 1059, 3) := by decide +kernel
theorem dJ0_checkIndex_df160_8 : decode cJ0_checkIndex_df160 8 = .ok (.pop, 1) := by decide +kernel
theorem dJ0_checkIndex_df160_9 : decode cJ0_checkIndex_df160 9 = .ok (.return_, 1) := by decide +kernel
theorem dJ1_charAt_3b067_0 : decode cJ1_charAt_3b067 0 = .ok (.iload_n 1, 1) := by decide +kernel
theorem dJ1_charAt_3b067_1 : decode cJ1_charAt_3b067 1 = .ok (.aload_n 0, 1) := by decide +kernel
theorem dJ1_charAt_3b067_2 : decode cJ1_charAt_3b067 2 = .ok (.arraylength, 1) := by decide +kernel
theorem dJ1_charAt_3b067_3 : decode cJ1_charAt_3b067 3 = .ok (.invokestatic 9, 3) := by decide +kernel
theorem dJ1_charAt_3b067_6 : decode cJ1_charAt_3b067 6 = .ok (.aload_n 0, 1) := by decide +kernel
theorem dJ1_charAt_3b067_7 : decode cJ1_charAt_3b067 7 = .ok (.iload_n 1, 1) := by decide +kernel
theorem dJ1_charAt_3b067_8 : decode cJ1_charAt_3b067 8 = .ok (.baload, 1) := by decide +kernel
theorem dJ1_charAt_3b067_9 : decode cJ1_charAt_3b067 9 = .ok (.sipush 255, 3) := by decide +kernel
theorem dJ1_charAt_3b067_12 : decode cJ1_charAt_3b067 12 = .ok (.iand, 1) := by decide +kernel
theorem dJ1_charAt_3b067_13 : decode cJ1_charAt_3b067 13 = .ok (.i2c, 1) := by decide +kernel
theorem dJ1_charAt_3b067_14 : decode cJ1_charAt_3b067 14 = .ok (.ireturn, 1) := by decide +kernel
theorem dJ2_getChar_3b067_0 : decode cJ2_getChar_3b067 0 = .ok (.getstatic 44, 3) := by decide +kernel
theorem dJ2_getChar_3b067_3 : decode cJ2_getChar_3b067 3 = .ok (.ifCond .ne 25, 3) := by decide +kernel
theorem dJ2_getChar_3b067_6 : decode cJ2_getChar_3b067 6 = .ok (.iload_n 1, 1) := by decide +kernel
theorem dJ2_getChar_3b067_7 : decode cJ2_getChar_3b067 7 = .ok (.ifCond .lt 11, 3) := by decide +kernel
theorem dJ2_getChar_3b067_10 : decode cJ2_getChar_3b067 10 = .ok (.iload_n 1, 1) := by decide +kernel
theorem dJ2_getChar_3b067_11 : decode cJ2_getChar_3b067 11 = .ok (.aload_n 0, 1) := by decide +kernel
theorem dJ2_getChar_3b067_12 : decode cJ2_getChar_3b067 12 = .ok (.invokestatic 48, 3) := by decide +kernel
theorem dJ2_getChar_3b067_15 : decode cJ2_getChar_3b067 15 = .ok (.if_icmp .lt 13, 3) := by decide +kernel
theorem dJ2_getChar_3b067_18 : decode cJ2_getChar_3b067 18 = .ok (.new 52, 3) := by decide +kernel
theorem dJ2_getChar_3b067_21 : decode cJ2_getChar_3b067 21 = .ok (.dup, 1) := by decide +kernel
theorem dJ2_getChar_3b067_22 : decode cJ2_getChar_3b067 22 = .ok (.ldc 54, 2) := by decide +kernel
theorem dJ2_getChar_3b067_24 : decode cJ2_getChar_3b067 24 = .ok (.invokespecial 56, 3) := by decide +kernel
theorem dJ2_getChar_3b067_27 : decode cJ2_getChar_3b067 27 = .ok (.athrow, 1) := by decide +kernel
theorem dJ2_getChar_3b067_28 : decode cJ2_getChar_3b067 28 = .ok (.iload_n 1, 1) := by decide +kernel
theorem dJ2_getChar_3b067_29 : decode cJ2_getChar_3b067 29 = .ok (.iconst 1, 1) := by decide +kernel
theorem dJ2_getChar_3b067_30 : decode cJ2_getChar_3b067 30 = .ok (.ishl, 1) := by decide +kernel
theorem dJ2_getChar_3b067_31 : decode cJ2_getChar_3b067 31 = .ok (.istore_n 1, 1) := by decide +kernel
theorem dJ2_getChar_3b067_32 : decode cJ2_getChar_3b067 32 = .ok (.aload_n 0, 1) := by decide +kernel
theorem dJ2_getChar_3b067_33 : decode cJ2_getChar_3b067 33 = .ok (.iload_n 1, 1) := by decide +kernel
theorem dJ2_getChar_3b067_34 : decode cJ2_getChar_3b067 34 = .ok (.iinc 1 1, 3) := by decide +kernel
theorem dJ2_getChar_3b067_37 : decode cJ2_getChar_3b067 37 = .ok (.baload, 1) := by decide +kernel
theorem dJ2_getChar_3b067_38 : decode cJ2_getChar_3b067 38 = .ok (.sipush 255, 3) := by decide +kernel
theorem dJ2_getChar_3b067_41 : decode cJ2_getChar_3b067 41 = .ok (.iand, 1) := by decide +kernel
theorem dJ2_getChar_3b067_42 : decode cJ2_getChar_3b067 42 = .ok (.getstatic 59, 3) := by decide +kernel
theorem dJ2_getChar_3b067_45 : decode cJ2_getChar_3b067 45 = .ok (.ishl, 1) := by decide +kernel
theorem dJ2_getChar_3b067_46 : decode cJ2_getChar_3b067 46 = .ok (.aload_n 0, 1) := by decide +kernel
theorem dJ2_getChar_3b067_47 : decode cJ2_getChar_3b067 47 = .ok (.iload_n 1, 1) := by decide +kernel
theorem dJ2_getChar_3b067_48 : decode cJ2_getChar_3b067 48 = .ok (.baload, 1) := by decide +kernel
theorem dJ2_getChar_3b067_49 : decode cJ2_getChar_3b067 49 = .ok (.sipush 255, 3) := by decide +kernel
theorem dJ2_getChar_3b067_52 : decode cJ2_getChar_3b067 52 = .ok (.iand, 1) := by decide +kernel
theorem dJ2_getChar_3b067_53 : decode cJ2_getChar_3b067 53 = .ok (.getstatic 63, 3) := by decide +kernel
theorem dJ2_getChar_3b067_56 : decode cJ2_getChar_3b067 56 = .ok (.ishl, 1) := by decide +kernel
theorem dJ2_getChar_3b067_57 : decode cJ2_getChar_3b067 57 = .ok (.ior, 1) := by decide +kernel
theorem dJ2_getChar_3b067_58 : decode cJ2_getChar_3b067 58 = .ok (.i2c, 1) := by decide +kernel
theorem dJ2_getChar_3b067_59 : decode cJ2_getChar_3b067 59 = .ok (.ireturn, 1) := by decide +kernel
theorem dJ2_length_9d52b_0 : decode cJ2_length_9d52b 0 = .ok (.aload_n 0, 1) := by decide +kernel
theorem dJ2_length_9d52b_1 : decode cJ2_length_9d52b 1 = .ok (.arraylength, 1) := by decide +kernel
theorem dJ2_length_9d52b_2 : decode cJ2_length_9d52b 2 = .ok (.iconst 1, 1) := by decide +kernel
theorem dJ2_length_9d52b_3 : decode cJ2_length_9d52b 3 = .ok (.ishr, 1) := by decide +kernel
theorem dJ2_length_9d52b_4 : decode cJ2_length_9d52b 4 = .ok (.ireturn, 1) := by decide +kernel
theorem dJ2_charAt_3b067_0 : decode cJ2_charAt_3b067 0 = .ok (.iload_n 1, 1) := by decide +kernel
theorem dJ2_charAt_3b067_1 : decode cJ2_charAt_3b067 1 = .ok (.aload_n 0, 1) := by decide +kernel
theorem dJ2_charAt_3b067_2 : decode cJ2_charAt_3b067 2 = .ok (.invokestatic 67, 3) := by decide +kernel
theorem dJ2_charAt_3b067_5 : decode cJ2_charAt_3b067 5 = .ok (.aload_n 0, 1) := by decide +kernel
theorem dJ2_charAt_3b067_6 : decode cJ2_charAt_3b067 6 = .ok (.iload_n 1, 1) := by decide +kernel
theorem dJ2_charAt_3b067_7 : decode cJ2_charAt_3b067 7 = .ok (.invokestatic 71, 3) := by decide +kernel
theorem dJ2_charAt_3b067_10 : decode cJ2_charAt_3b067 10 = .ok (.ireturn, 1) := by decide +kernel
theorem dJ2_checkIndex_2214a_0 : decode cJ2_checkIndex_2214a 0 = .ok (.iload_n 0, 1) := by decide +kernel
theorem dJ2_checkIndex_2214a_1 : decode cJ2_checkIndex_2214a 1 = .ok (.aload_n 1, 1) := by decide +kernel
theorem dJ2_checkIndex_2214a_2 : decode cJ2_checkIndex_2214a 2 = .ok (.invokestatic 48, 3) := by decide +kernel
theorem dJ2_checkIndex_2214a_5 : decode cJ2_checkIndex_2214a 5 = .ok (.invokestatic 414, 3) := by decide +kernel
theorem dJ2_checkIndex_2214a_8 : decode cJ2_checkIndex_2214a 8 = .ok (.return_, 1) := by decide +kernel
theorem dJ3_checkIndex_8e157_0 : decode cJ3_checkIndex_8e157 0 = .ok (.iload_n 0, 1) := by decide +kernel
theorem dJ3_checkIndex_8e157_1 : decode cJ3_checkIndex_8e157 1 = .ok (.ifCond .lt 8, 3) := by decide +kernel
theorem dJ3_checkIndex_8e157_4 : decode cJ3_checkIndex_8e157 4 = .ok (.iload_n 0, 1) := by decide +kernel
theorem dJ3_checkIndex_8e157_5 : decode cJ3_checkIndex_8e157 5 = .ok (.iload_n 1, 1) := by decide +kernel
theorem dJ3_checkIndex_8e157_6 : decode cJ3_checkIndex_8e157 6 = .ok (.if_icmp .lt 10, 3) := by decide +kernel
theorem dJ3_checkIndex_8e157_9 : decode cJ3_checkIndex_8e157 9 = .ok (.aload_n 2, 1) := by decide +kernel
theorem dJ3_checkIndex_8e157_10 : decode cJ3_checkIndex_8e157 10 = .ok (.iload_n 0, 1) := by decide +kernel
theorem dJ3_checkIndex_8e157_11 : decode cJ3_checkIndex_8e157 11 = .ok (.iload_n 1, 1) := by decide +kernel
theorem dJ3_checkIndex_8e157_12 : decode cJ3_checkIndex_8e157 12 = .ok (.invokestatic 95, 3) := by decide +kernel
theorem dJ3_checkIndex_8e157_15 : decode cJ3_checkIndex_8e157 15 = .ok (.athrow, 1) := by decide +kernel
theorem dJ3_checkIndex_8e157_16 : decode cJ3_checkIndex_8e157 16 = .ok (.iload_n 0, 1) := by decide +kernel
theorem dJ3_checkIndex_8e157_17 : decode cJ3_checkIndex_8e157 17 = .ok (.ireturn, 1) := by decide +kernel
theorem dL_law_0 : decode cL_law 0 = .ok (.new 7, 3) := by decide +kernel
theorem dL_law_3 : decode cL_law 3 = .ok (.dup, 1) := by decide +kernel
theorem dL_law_4 : decode cL_law 4 = .ok (.invokespecial 9, 3) := by decide +kernel
theorem dL_law_7 : decode cL_law 7 = .ok (.astore_n 1, 1) := by decide +kernel
theorem dL_law_8 : decode cL_law 8 = .ok (.new 10, 3) := by decide +kernel
theorem dL_law_11 : decode cL_law 11 = .ok (.dup, 1) := by decide +kernel
theorem dL_law_12 : decode cL_law 12 = .ok (.invokespecial 12, 3) := by decide +kernel
theorem dL_law_15 : decode cL_law 15 = .ok (.astore_n 2, 1) := by decide +kernel
theorem dL_law_16 : decode cL_law 16 = .ok (.iconst 0, 1) := by decide +kernel
theorem dL_law_17 : decode cL_law 17 = .ok (.istore_n 3, 1) := by decide +kernel
theorem dL_law_18 : decode cL_law 18 = .ok (.iload_n 3, 1) := by decide +kernel
theorem dL_law_19 : decode cL_law 19 = .ok (.aload_n 0, 1) := by decide +kernel
theorem dL_law_20 : decode cL_law 20 = .ok (.arraylength, 1) := by decide +kernel
theorem dL_law_21 : decode cL_law 21 = .ok (.bipush 6, 2) := by decide +kernel
theorem dL_law_23 : decode cL_law 23 = .ok (.isub, 1) := by decide +kernel
theorem dL_law_24 : decode cL_law 24 = .ok (.if_icmp .gt 1662, 3) := by decide +kernel
theorem dL_law_27 : decode cL_law 27 = .ok (.aload_n 0, 1) := by decide +kernel
theorem dL_law_28 : decode cL_law 28 = .ok (.iload_n 3, 1) := by decide +kernel
theorem dL_law_29 : decode cL_law 29 = .ok (.iaload, 1) := by decide +kernel
theorem dL_law_30 : decode cL_law 30 = .ok (.bipush 63, 2) := by decide +kernel
theorem dL_law_32 : decode cL_law 32 = .ok (.iand, 1) := by decide +kernel
theorem dL_law_33 : decode cL_law 33 = .ok (.tableswitch 1647 0 45 #[199, 252, 285, 318, 351, 384, 427, 450, 463, 496, 529, 562, 585, 598, 621, 634, 677, 710, 753, 786, 819, 842, 885, 928, 951, 984, 1007, 1060, 1093, 1106, 1139, 1152, 1175, 1218, 1261, 1304, 1337, 1400, 1443, 1476, 1509, 1542, 1565, 1598, 1611, 1624], 199) := by decide +kernel
theorem dL_law_232 : decode cL_law 232 = .ok (.aload_n 1, 1) := by decide +kernel
theorem dL_law_233 : decode cL_law 233 = .ok (.aload_n 0, 1) := by decide +kernel
theorem dL_law_234 : decode cL_law 234 = .ok (.iload_n 3, 1) := by decide +kernel
theorem dL_law_235 : decode cL_law 235 = .ok (.iconst 1, 1) := by decide +kernel
theorem dL_law_236 : decode cL_law 236 = .ok (.iadd, 1) := by decide +kernel
theorem dL_law_237 : decode cL_law 237 = .ok (.iaload, 1) := by decide +kernel
theorem dL_law_238 : decode cL_law 238 = .ok (.aload_n 0, 1) := by decide +kernel
theorem dL_law_239 : decode cL_law 239 = .ok (.iload_n 3, 1) := by decide +kernel
theorem dL_law_240 : decode cL_law 240 = .ok (.iconst 2, 1) := by decide +kernel
theorem dL_law_241 : decode cL_law 241 = .ok (.iadd, 1) := by decide +kernel
theorem dL_law_242 : decode cL_law 242 = .ok (.iaload, 1) := by decide +kernel
theorem dL_law_243 : decode cL_law 243 = .ok (.aload_n 0, 1) := by decide +kernel
theorem dL_law_244 : decode cL_law 244 = .ok (.iload_n 3, 1) := by decide +kernel
theorem dL_law_245 : decode cL_law 245 = .ok (.iconst 3, 1) := by decide +kernel
theorem dL_law_246 : decode cL_law 246 = .ok (.iadd, 1) := by decide +kernel
theorem dL_law_247 : decode cL_law 247 = .ok (.iaload, 1) := by decide +kernel
theorem dL_law_248 : decode cL_law 248 = .ok (.aload_n 0, 1) := by decide +kernel
theorem dL_law_249 : decode cL_law 249 = .ok (.iload_n 3, 1) := by decide +kernel
theorem dL_law_250 : decode cL_law 250 = .ok (.iconst 4, 1) := by decide +kernel
theorem dL_law_251 : decode cL_law 251 = .ok (.iadd, 1) := by decide +kernel
theorem dL_law_252 : decode cL_law 252 = .ok (.iaload, 1) := by decide +kernel
theorem dL_law_253 : decode cL_law 253 = .ok (.invokevirtual 13, 3) := by decide +kernel
theorem dL_law_256 : decode cL_law 256 = .ok (.aload_n 2, 1) := by decide +kernel
theorem dL_law_257 : decode cL_law 257 = .ok (.aload_n 0, 1) := by decide +kernel
theorem dL_law_258 : decode cL_law 258 = .ok (.iload_n 3, 1) := by decide +kernel
theorem dL_law_259 : decode cL_law 259 = .ok (.iconst 1, 1) := by decide +kernel
theorem dL_law_260 : decode cL_law 260 = .ok (.iadd, 1) := by decide +kernel
theorem dL_law_261 : decode cL_law 261 = .ok (.iaload, 1) := by decide +kernel
theorem dL_law_262 : decode cL_law 262 = .ok (.aload_n 0, 1) := by decide +kernel
theorem dL_law_263 : decode cL_law 263 = .ok (.iload_n 3, 1) := by decide +kernel
theorem dL_law_264 : decode cL_law 264 = .ok (.iconst 2, 1) := by decide +kernel
theorem dL_law_265 : decode cL_law 265 = .ok (.iadd, 1) := by decide +kernel
theorem dL_law_266 : decode cL_law 266 = .ok (.iaload, 1) := by decide +kernel
theorem dL_law_267 : decode cL_law 267 = .ok (.aload_n 0, 1) := by decide +kernel
theorem dL_law_268 : decode cL_law 268 = .ok (.iload_n 3, 1) := by decide +kernel
theorem dL_law_269 : decode cL_law 269 = .ok (.iconst 3, 1) := by decide +kernel
theorem dL_law_270 : decode cL_law 270 = .ok (.iadd, 1) := by decide +kernel
theorem dL_law_271 : decode cL_law 271 = .ok (.iaload, 1) := by decide +kernel
theorem dL_law_272 : decode cL_law 272 = .ok (.aload_n 0, 1) := by decide +kernel
theorem dL_law_273 : decode cL_law 273 = .ok (.iload_n 3, 1) := by decide +kernel
theorem dL_law_274 : decode cL_law 274 = .ok (.iconst 4, 1) := by decide +kernel
theorem dL_law_275 : decode cL_law 275 = .ok (.iadd, 1) := by decide +kernel
theorem dL_law_276 : decode cL_law 276 = .ok (.iaload, 1) := by decide +kernel
theorem dL_law_277 : decode cL_law 277 = .ok (.invokevirtual 17, 3) := by decide +kernel
theorem dL_law_280 : decode cL_law 280 = .ok (.if_icmp .eq 1400, 3) := by decide +kernel
theorem dL_law_283 : decode cL_law 283 = .ok (.iconst 0, 1) := by decide +kernel
theorem dL_law_284 : decode cL_law 284 = .ok (.ireturn, 1) := by decide +kernel
theorem dL_law_285 : decode cL_law 285 = .ok (.aload_n 1, 1) := by decide +kernel
theorem dL_law_286 : decode cL_law 286 = .ok (.aload_n 0, 1) := by decide +kernel
theorem dL_law_287 : decode cL_law 287 = .ok (.iload_n 3, 1) := by decide +kernel
theorem dL_law_288 : decode cL_law 288 = .ok (.iconst 1, 1) := by decide +kernel
theorem dL_law_289 : decode cL_law 289 = .ok (.iadd, 1) := by decide +kernel
theorem dL_law_290 : decode cL_law 290 = .ok (.iaload, 1) := by decide +kernel
theorem dL_law_291 : decode cL_law 291 = .ok (.aload_n 0, 1) := by decide +kernel
theorem dL_law_292 : decode cL_law 292 = .ok (.iload_n 3, 1) := by decide +kernel
theorem dL_law_293 : decode cL_law 293 = .ok (.iconst 2, 1) := by decide +kernel
theorem dL_law_294 : decode cL_law 294 = .ok (.iadd, 1) := by decide +kernel
theorem dL_law_295 : decode cL_law 295 = .ok (.iaload, 1) := by decide +kernel
theorem dL_law_296 : decode cL_law 296 = .ok (.invokevirtual 18, 3) := by decide +kernel
theorem dL_law_299 : decode cL_law 299 = .ok (.aload_n 2, 1) := by decide +kernel
theorem dL_law_300 : decode cL_law 300 = .ok (.aload_n 0, 1) := by decide +kernel
theorem dL_law_301 : decode cL_law 301 = .ok (.iload_n 3, 1) := by decide +kernel
theorem dL_law_302 : decode cL_law 302 = .ok (.iconst 1, 1) := by decide +kernel
theorem dL_law_303 : decode cL_law 303 = .ok (.iadd, 1) := by decide +kernel
theorem dL_law_304 : decode cL_law 304 = .ok (.iaload, 1) := by decide +kernel
theorem dL_law_305 : decode cL_law 305 = .ok (.aload_n 0, 1) := by decide +kernel
theorem dL_law_306 : decode cL_law 306 = .ok (.iload_n 3, 1) := by decide +kernel
theorem dL_law_307 : decode cL_law 307 = .ok (.iconst 2, 1) := by decide +kernel
theorem dL_law_308 : decode cL_law 308 = .ok (.iadd, 1) := by decide +kernel
theorem dL_law_309 : decode cL_law 309 = .ok (.iaload, 1) := by decide +kernel
theorem dL_law_310 : decode cL_law 310 = .ok (.invokevirtual 22, 3) := by decide +kernel
theorem dL_law_313 : decode cL_law 313 = .ok (.if_icmp .eq 1367, 3) := by decide +kernel
theorem dL_law_316 : decode cL_law 316 = .ok (.iconst 0, 1) := by decide +kernel
theorem dL_law_317 : decode cL_law 317 = .ok (.ireturn, 1) := by decide +kernel
theorem dL_law_318 : decode cL_law 318 = .ok (.aload_n 1, 1) := by decide +kernel
theorem dL_law_319 : decode cL_law 319 = .ok (.aload_n 0, 1) := by decide +kernel
theorem dL_law_320 : decode cL_law 320 = .ok (.iload_n 3, 1) := by decide +kernel
theorem dL_law_321 : decode cL_law 321 = .ok (.iconst 1, 1) := by decide +kernel
theorem dL_law_322 : decode cL_law 322 = .ok (.iadd, 1) := by decide +kernel
theorem dL_law_323 : decode cL_law 323 = .ok (.iaload, 1) := by decide +kernel
theorem dL_law_324 : decode cL_law 324 = .ok (.aload_n 0, 1) := by decide +kernel
theorem dL_law_325 : decode cL_law 325 = .ok (.iload_n 3, 1) := by decide +kernel
theorem dL_law_326 : decode cL_law 326 = .ok (.iconst 2, 1) := by decide +kernel
theorem dL_law_327 : decode cL_law 327 = .ok (.iadd, 1) := by decide +kernel
theorem dL_law_328 : decode cL_law 328 = .ok (.iaload, 1) := by decide +kernel
theorem dL_law_329 : decode cL_law 329 = .ok (.invokevirtual 23, 3) := by decide +kernel
theorem dL_law_332 : decode cL_law 332 = .ok (.aload_n 2, 1) := by decide +kernel
theorem dL_law_333 : decode cL_law 333 = .ok (.aload_n 0, 1) := by decide +kernel
theorem dL_law_334 : decode cL_law 334 = .ok (.iload_n 3, 1) := by decide +kernel
theorem dL_law_335 : decode cL_law 335 = .ok (.iconst 1, 1) := by decide +kernel
theorem dL_law_336 : decode cL_law 336 = .ok (.iadd, 1) := by decide +kernel
theorem dL_law_337 : decode cL_law 337 = .ok (.iaload, 1) := by decide +kernel
theorem dL_law_338 : decode cL_law 338 = .ok (.aload_n 0, 1) := by decide +kernel
theorem dL_law_339 : decode cL_law 339 = .ok (.iload_n 3, 1) := by decide +kernel
theorem dL_law_340 : decode cL_law 340 = .ok (.iconst 2, 1) := by decide +kernel
theorem dL_law_341 : decode cL_law 341 = .ok (.iadd, 1) := by decide +kernel
theorem dL_law_342 : decode cL_law 342 = .ok (.iaload, 1) := by decide +kernel
theorem dL_law_343 : decode cL_law 343 = .ok (.invokevirtual 26, 3) := by decide +kernel
theorem dL_law_346 : decode cL_law 346 = .ok (.if_icmp .eq 1334, 3) := by decide +kernel
theorem dL_law_349 : decode cL_law 349 = .ok (.iconst 0, 1) := by decide +kernel
theorem dL_law_350 : decode cL_law 350 = .ok (.ireturn, 1) := by decide +kernel
theorem dL_law_351 : decode cL_law 351 = .ok (.aload_n 1, 1) := by decide +kernel
theorem dL_law_352 : decode cL_law 352 = .ok (.aload_n 0, 1) := by decide +kernel
theorem dL_law_353 : decode cL_law 353 = .ok (.iload_n 3, 1) := by decide +kernel
theorem dL_law_354 : decode cL_law 354 = .ok (.iconst 1, 1) := by decide +kernel
theorem dL_law_355 : decode cL_law 355 = .ok (.iadd, 1) := by decide +kernel
theorem dL_law_356 : decode cL_law 356 = .ok (.iaload, 1) := by decide +kernel
theorem dL_law_357 : decode cL_law 357 = .ok (.aload_n 0, 1) := by decide +kernel
theorem dL_law_358 : decode cL_law 358 = .ok (.iload_n 3, 1) := by decide +kernel
theorem dL_law_359 : decode cL_law 359 = .ok (.iconst 2, 1) := by decide +kernel
theorem dL_law_360 : decode cL_law 360 = .ok (.iadd, 1) := by decide +kernel
theorem dL_law_361 : decode cL_law 361 = .ok (.iaload, 1) := by decide +kernel
theorem dL_law_362 : decode cL_law 362 = .ok (.invokevirtual 27, 3) := by decide +kernel
theorem dL_law_365 : decode cL_law 365 = .ok (.aload_n 2, 1) := by decide +kernel
theorem dL_law_366 : decode cL_law 366 = .ok (.aload_n 0, 1) := by decide +kernel
theorem dL_law_367 : decode cL_law 367 = .ok (.iload_n 3, 1) := by decide +kernel
theorem dL_law_368 : decode cL_law 368 = .ok (.iconst 1, 1) := by decide +kernel
theorem dL_law_369 : decode cL_law 369 = .ok (.iadd, 1) := by decide +kernel
theorem dL_law_370 : decode cL_law 370 = .ok (.iaload, 1) := by decide +kernel
theorem dL_law_371 : decode cL_law 371 = .ok (.aload_n 0, 1) := by decide +kernel
theorem dL_law_372 : decode cL_law 372 = .ok (.iload_n 3, 1) := by decide +kernel
theorem dL_law_373 : decode cL_law 373 = .ok (.iconst 2, 1) := by decide +kernel
theorem dL_law_374 : decode cL_law 374 = .ok (.iadd, 1) := by decide +kernel
theorem dL_law_375 : decode cL_law 375 = .ok (.iaload, 1) := by decide +kernel
theorem dL_law_376 : decode cL_law 376 = .ok (.invokevirtual 30, 3) := by decide +kernel
theorem dL_law_379 : decode cL_law 379 = .ok (.if_icmp .eq 1301, 3) := by decide +kernel
theorem dL_law_382 : decode cL_law 382 = .ok (.iconst 0, 1) := by decide +kernel
theorem dL_law_383 : decode cL_law 383 = .ok (.ireturn, 1) := by decide +kernel
theorem dL_law_384 : decode cL_law 384 = .ok (.aload_n 1, 1) := by decide +kernel
theorem dL_law_385 : decode cL_law 385 = .ok (.aload_n 0, 1) := by decide +kernel
theorem dL_law_386 : decode cL_law 386 = .ok (.iload_n 3, 1) := by decide +kernel
theorem dL_law_387 : decode cL_law 387 = .ok (.iconst 1, 1) := by decide +kernel
theorem dL_law_388 : decode cL_law 388 = .ok (.iadd, 1) := by decide +kernel
theorem dL_law_389 : decode cL_law 389 = .ok (.iaload, 1) := by decide +kernel
theorem dL_law_390 : decode cL_law 390 = .ok (.aload_n 0, 1) := by decide +kernel
theorem dL_law_391 : decode cL_law 391 = .ok (.iload_n 3, 1) := by decide +kernel
theorem dL_law_392 : decode cL_law 392 = .ok (.iconst 2, 1) := by decide +kernel
theorem dL_law_393 : decode cL_law 393 = .ok (.iadd, 1) := by decide +kernel
theorem dL_law_394 : decode cL_law 394 = .ok (.iaload, 1) := by decide +kernel
theorem dL_law_395 : decode cL_law 395 = .ok (.invokevirtual 31, 3) := by decide +kernel
theorem dL_law_398 : decode cL_law 398 = .ok (.aload_n 2, 1) := by decide +kernel
theorem dL_law_399 : decode cL_law 399 = .ok (.aload_n 0, 1) := by decide +kernel
theorem dL_law_400 : decode cL_law 400 = .ok (.iload_n 3, 1) := by decide +kernel
theorem dL_law_401 : decode cL_law 401 = .ok (.iconst 1, 1) := by decide +kernel
theorem dL_law_402 : decode cL_law 402 = .ok (.iadd, 1) := by decide +kernel
theorem dL_law_403 : decode cL_law 403 = .ok (.iaload, 1) := by decide +kernel
theorem dL_law_404 : decode cL_law 404 = .ok (.aload_n 0, 1) := by decide +kernel
theorem dL_law_405 : decode cL_law 405 = .ok (.iload_n 3, 1) := by decide +kernel
theorem dL_law_406 : decode cL_law 406 = .ok (.iconst 2, 1) := by decide +kernel
theorem dL_law_407 : decode cL_law 407 = .ok (.iadd, 1) := by decide +kernel
theorem dL_law_408 : decode cL_law 408 = .ok (.iaload, 1) := by decide +kernel
theorem dL_law_409 : decode cL_law 409 = .ok (.invokevirtual 34, 3) := by decide +kernel
theorem dL_law_412 : decode cL_law 412 = .ok (.if_icmp .eq 1268, 3) := by decide +kernel
theorem dL_law_415 : decode cL_law 415 = .ok (.iconst 0, 1) := by decide +kernel
theorem dL_law_416 : decode cL_law 416 = .ok (.ireturn, 1) := by decide +kernel
theorem dL_law_417 : decode cL_law 417 = .ok (.aload_n 1, 1) := by decide +kernel
theorem dL_law_418 : decode cL_law 418 = .ok (.aload_n 0, 1) := by decide +kernel
theorem dL_law_419 : decode cL_law 419 = .ok (.iload_n 3, 1) := by decide +kernel
theorem dL_law_420 : decode cL_law 420 = .ok (.iconst 1, 1) := by decide +kernel
theorem dL_law_421 : decode cL_law 421 = .ok (.iadd, 1) := by decide +kernel
theorem dL_law_422 : decode cL_law 422 = .ok (.iaload, 1) := by decide +kernel
theorem dL_law_423 : decode cL_law 423 = .ok (.aload_n 0, 1) := by decide +kernel
theorem dL_law_424 : decode cL_law 424 = .ok (.iload_n 3, 1) := by decide +kernel
theorem dL_law_425 : decode cL_law 425 = .ok (.iconst 2, 1) := by decide +kernel
theorem dL_law_426 : decode cL_law 426 = .ok (.iadd, 1) := by decide +kernel
theorem dL_law_427 : decode cL_law 427 = .ok (.iaload, 1) := by decide +kernel
theorem dL_law_428 : decode cL_law 428 = .ok (.aload_n 0, 1) := by decide +kernel
theorem dL_law_429 : decode cL_law 429 = .ok (.iload_n 3, 1) := by decide +kernel
theorem dL_law_430 : decode cL_law 430 = .ok (.iconst 3, 1) := by decide +kernel
theorem dL_law_431 : decode cL_law 431 = .ok (.iadd, 1) := by decide +kernel
theorem dL_law_432 : decode cL_law 432 = .ok (.iaload, 1) := by decide +kernel
theorem dL_law_433 : decode cL_law 433 = .ok (.invokevirtual 35, 3) := by decide +kernel
theorem dL_law_436 : decode cL_law 436 = .ok (.aload_n 2, 1) := by decide +kernel
theorem dL_law_437 : decode cL_law 437 = .ok (.aload_n 0, 1) := by decide +kernel
theorem dL_law_438 : decode cL_law 438 = .ok (.iload_n 3, 1) := by decide +kernel
theorem dL_law_439 : decode cL_law 439 = .ok (.iconst 1, 1) := by decide +kernel
theorem dL_law_440 : decode cL_law 440 = .ok (.iadd, 1) := by decide +kernel
theorem dL_law_441 : decode cL_law 441 = .ok (.iaload, 1) := by decide +kernel
theorem dL_law_442 : decode cL_law 442 = .ok (.aload_n 0, 1) := by decide +kernel
theorem dL_law_443 : decode cL_law 443 = .ok (.iload_n 3, 1) := by decide +kernel
theorem dL_law_444 : decode cL_law 444 = .ok (.iconst 2, 1) := by decide +kernel
theorem dL_law_445 : decode cL_law 445 = .ok (.iadd, 1) := by decide +kernel
theorem dL_law_446 : decode cL_law 446 = .ok (.iaload, 1) := by decide +kernel
theorem dL_law_447 : decode cL_law 447 = .ok (.aload_n 0, 1) := by decide +kernel
theorem dL_law_448 : decode cL_law 448 = .ok (.iload_n 3, 1) := by decide +kernel
theorem dL_law_449 : decode cL_law 449 = .ok (.iconst 3, 1) := by decide +kernel
theorem dL_law_450 : decode cL_law 450 = .ok (.iadd, 1) := by decide +kernel
theorem dL_law_451 : decode cL_law 451 = .ok (.iaload, 1) := by decide +kernel
theorem dL_law_452 : decode cL_law 452 = .ok (.invokevirtual 39, 3) := by decide +kernel
theorem dL_law_455 : decode cL_law 455 = .ok (.if_icmp .eq 1225, 3) := by decide +kernel
theorem dL_law_458 : decode cL_law 458 = .ok (.iconst 0, 1) := by decide +kernel
theorem dL_law_459 : decode cL_law 459 = .ok (.ireturn, 1) := by decide +kernel
theorem dL_law_460 : decode cL_law 460 = .ok (.aload_n 1, 1) := by decide +kernel
theorem dL_law_461 : decode cL_law 461 = .ok (.aload_n 0, 1) := by decide +kernel
theorem dL_law_462 : decode cL_law 462 = .ok (.iload_n 3, 1) := by decide +kernel
theorem dL_law_463 : decode cL_law 463 = .ok (.iconst 1, 1) := by decide +kernel
theorem dL_law_464 : decode cL_law 464 = .ok (.iadd, 1) := by decide +kernel
theorem dL_law_465 : decode cL_law 465 = .ok (.iaload, 1) := by decide +kernel
theorem dL_law_466 : decode cL_law 466 = .ok (.invokevirtual 40, 3) := by decide +kernel
theorem dL_law_469 : decode cL_law 469 = .ok (.aload_n 2, 1) := by decide +kernel
theorem dL_law_470 : decode cL_law 470 = .ok (.aload_n 0, 1) := by decide +kernel
theorem dL_law_471 : decode cL_law 471 = .ok (.iload_n 3, 1) := by decide +kernel
theorem dL_law_472 : decode cL_law 472 = .ok (.iconst 1, 1) := by decide +kernel
theorem dL_law_473 : decode cL_law 473 = .ok (.iadd, 1) := by decide +kernel
theorem dL_law_474 : decode cL_law 474 = .ok (.iaload, 1) := by decide +kernel
theorem dL_law_475 : decode cL_law 475 = .ok (.invokevirtual 44, 3) := by decide +kernel
theorem dL_law_478 : decode cL_law 478 = .ok (.if_icmp .eq 1202, 3) := by decide +kernel
theorem dL_law_481 : decode cL_law 481 = .ok (.iconst 0, 1) := by decide +kernel
theorem dL_law_482 : decode cL_law 482 = .ok (.ireturn, 1) := by decide +kernel
theorem dL_law_483 : decode cL_law 483 = .ok (.aload_n 1, 1) := by decide +kernel
theorem dL_law_484 : decode cL_law 484 = .ok (.invokevirtual 45, 3) := by decide +kernel
theorem dL_law_487 : decode cL_law 487 = .ok (.aload_n 2, 1) := by decide +kernel
theorem dL_law_488 : decode cL_law 488 = .ok (.invokevirtual 49, 3) := by decide +kernel
theorem dL_law_491 : decode cL_law 491 = .ok (.if_icmp .eq 1189, 3) := by decide +kernel
theorem dL_law_494 : decode cL_law 494 = .ok (.iconst 0, 1) := by decide +kernel
theorem dL_law_495 : decode cL_law 495 = .ok (.ireturn, 1) := by decide +kernel
theorem dL_law_496 : decode cL_law 496 = .ok (.aload_n 1, 1) := by decide +kernel
theorem dL_law_497 : decode cL_law 497 = .ok (.aload_n 0, 1) := by decide +kernel
theorem dL_law_498 : decode cL_law 498 = .ok (.iload_n 3, 1) := by decide +kernel
theorem dL_law_499 : decode cL_law 499 = .ok (.iconst 1, 1) := by decide +kernel
theorem dL_law_500 : decode cL_law 500 = .ok (.iadd, 1) := by decide +kernel
theorem dL_law_501 : decode cL_law 501 = .ok (.iaload, 1) := by decide +kernel
theorem dL_law_502 : decode cL_law 502 = .ok (.aload_n 0, 1) := by decide +kernel
theorem dL_law_503 : decode cL_law 503 = .ok (.iload_n 3, 1) := by decide +kernel
theorem dL_law_504 : decode cL_law 504 = .ok (.iconst 2, 1) := by decide +kernel
theorem dL_law_505 : decode cL_law 505 = .ok (.iadd, 1) := by decide +kernel
theorem dL_law_506 : decode cL_law 506 = .ok (.iaload, 1) := by decide +kernel
theorem dL_law_507 : decode cL_law 507 = .ok (.invokevirtual 50, 3) := by decide +kernel
theorem dL_law_510 : decode cL_law 510 = .ok (.aload_n 2, 1) := by decide +kernel
theorem dL_law_511 : decode cL_law 511 = .ok (.aload_n 0, 1) := by decide +kernel
theorem dL_law_512 : decode cL_law 512 = .ok (.iload_n 3, 1) := by decide +kernel
theorem dL_law_513 : decode cL_law 513 = .ok (.iconst 1, 1) := by decide +kernel
theorem dL_law_514 : decode cL_law 514 = .ok (.iadd, 1) := by decide +kernel
theorem dL_law_515 : decode cL_law 515 = .ok (.iaload, 1) := by decide +kernel
theorem dL_law_516 : decode cL_law 516 = .ok (.aload_n 0, 1) := by decide +kernel
theorem dL_law_517 : decode cL_law 517 = .ok (.iload_n 3, 1) := by decide +kernel
theorem dL_law_518 : decode cL_law 518 = .ok (.iconst 2, 1) := by decide +kernel
theorem dL_law_519 : decode cL_law 519 = .ok (.iadd, 1) := by decide +kernel
theorem dL_law_520 : decode cL_law 520 = .ok (.iaload, 1) := by decide +kernel
theorem dL_law_521 : decode cL_law 521 = .ok (.invokevirtual 53, 3) := by decide +kernel
theorem dL_law_524 : decode cL_law 524 = .ok (.if_icmp .eq 1156, 3) := by decide +kernel
theorem dL_law_527 : decode cL_law 527 = .ok (.iconst 0, 1) := by decide +kernel
theorem dL_law_528 : decode cL_law 528 = .ok (.ireturn, 1) := by decide +kernel
theorem dL_law_529 : decode cL_law 529 = .ok (.aload_n 1, 1) := by decide +kernel
theorem dL_law_530 : decode cL_law 530 = .ok (.aload_n 0, 1) := by decide +kernel
theorem dL_law_531 : decode cL_law 531 = .ok (.iload_n 3, 1) := by decide +kernel
theorem dL_law_532 : decode cL_law 532 = .ok (.iconst 1, 1) := by decide +kernel
theorem dL_law_533 : decode cL_law 533 = .ok (.iadd, 1) := by decide +kernel
theorem dL_law_534 : decode cL_law 534 = .ok (.iaload, 1) := by decide +kernel
theorem dL_law_535 : decode cL_law 535 = .ok (.aload_n 0, 1) := by decide +kernel
theorem dL_law_536 : decode cL_law 536 = .ok (.iload_n 3, 1) := by decide +kernel
theorem dL_law_537 : decode cL_law 537 = .ok (.iconst 2, 1) := by decide +kernel
theorem dL_law_538 : decode cL_law 538 = .ok (.iadd, 1) := by decide +kernel
theorem dL_law_539 : decode cL_law 539 = .ok (.iaload, 1) := by decide +kernel
theorem dL_law_540 : decode cL_law 540 = .ok (.invokevirtual 54, 3) := by decide +kernel
theorem dL_law_543 : decode cL_law 543 = .ok (.aload_n 2, 1) := by decide +kernel
theorem dL_law_544 : decode cL_law 544 = .ok (.aload_n 0, 1) := by decide +kernel
theorem dL_law_545 : decode cL_law 545 = .ok (.iload_n 3, 1) := by decide +kernel
theorem dL_law_546 : decode cL_law 546 = .ok (.iconst 1, 1) := by decide +kernel
theorem dL_law_547 : decode cL_law 547 = .ok (.iadd, 1) := by decide +kernel
theorem dL_law_548 : decode cL_law 548 = .ok (.iaload, 1) := by decide +kernel
theorem dL_law_549 : decode cL_law 549 = .ok (.aload_n 0, 1) := by decide +kernel
theorem dL_law_550 : decode cL_law 550 = .ok (.iload_n 3, 1) := by decide +kernel
theorem dL_law_551 : decode cL_law 551 = .ok (.iconst 2, 1) := by decide +kernel
theorem dL_law_552 : decode cL_law 552 = .ok (.iadd, 1) := by decide +kernel
theorem dL_law_553 : decode cL_law 553 = .ok (.iaload, 1) := by decide +kernel
theorem dL_law_554 : decode cL_law 554 = .ok (.invokevirtual 57, 3) := by decide +kernel
theorem dL_law_557 : decode cL_law 557 = .ok (.if_icmp .eq 1123, 3) := by decide +kernel
theorem dL_law_560 : decode cL_law 560 = .ok (.iconst 0, 1) := by decide +kernel
theorem dL_law_561 : decode cL_law 561 = .ok (.ireturn, 1) := by decide +kernel
theorem dL_law_562 : decode cL_law 562 = .ok (.aload_n 1, 1) := by decide +kernel
theorem dL_law_563 : decode cL_law 563 = .ok (.aload_n 0, 1) := by decide +kernel
theorem dL_law_564 : decode cL_law 564 = .ok (.iload_n 3, 1) := by decide +kernel
theorem dL_law_565 : decode cL_law 565 = .ok (.iconst 1, 1) := by decide +kernel
theorem dL_law_566 : decode cL_law 566 = .ok (.iadd, 1) := by decide +kernel
theorem dL_law_567 : decode cL_law 567 = .ok (.iaload, 1) := by decide +kernel
theorem dL_law_568 : decode cL_law 568 = .ok (.aload_n 0, 1) := by decide +kernel
theorem dL_law_569 : decode cL_law 569 = .ok (.iload_n 3, 1) := by decide +kernel
theorem dL_law_570 : decode cL_law 570 = .ok (.iconst 2, 1) := by decide +kernel
theorem dL_law_571 : decode cL_law 571 = .ok (.iadd, 1) := by decide +kernel
theorem dL_law_572 : decode cL_law 572 = .ok (.iaload, 1) := by decide +kernel
theorem dL_law_573 : decode cL_law 573 = .ok (.invokevirtual 58, 3) := by decide +kernel
theorem dL_law_576 : decode cL_law 576 = .ok (.aload_n 2, 1) := by decide +kernel
theorem dL_law_577 : decode cL_law 577 = .ok (.aload_n 0, 1) := by decide +kernel
theorem dL_law_578 : decode cL_law 578 = .ok (.iload_n 3, 1) := by decide +kernel
theorem dL_law_579 : decode cL_law 579 = .ok (.iconst 1, 1) := by decide +kernel
theorem dL_law_580 : decode cL_law 580 = .ok (.iadd, 1) := by decide +kernel
theorem dL_law_581 : decode cL_law 581 = .ok (.iaload, 1) := by decide +kernel
theorem dL_law_582 : decode cL_law 582 = .ok (.aload_n 0, 1) := by decide +kernel
theorem dL_law_583 : decode cL_law 583 = .ok (.iload_n 3, 1) := by decide +kernel
theorem dL_law_584 : decode cL_law 584 = .ok (.iconst 2, 1) := by decide +kernel
theorem dL_law_585 : decode cL_law 585 = .ok (.iadd, 1) := by decide +kernel
theorem dL_law_586 : decode cL_law 586 = .ok (.iaload, 1) := by decide +kernel
theorem dL_law_587 : decode cL_law 587 = .ok (.invokevirtual 61, 3) := by decide +kernel
theorem dL_law_590 : decode cL_law 590 = .ok (.if_icmp .eq 1090, 3) := by decide +kernel
theorem dL_law_593 : decode cL_law 593 = .ok (.iconst 0, 1) := by decide +kernel
theorem dL_law_594 : decode cL_law 594 = .ok (.ireturn, 1) := by decide +kernel
theorem dL_law_595 : decode cL_law 595 = .ok (.aload_n 1, 1) := by decide +kernel
theorem dL_law_596 : decode cL_law 596 = .ok (.aload_n 0, 1) := by decide +kernel
theorem dL_law_597 : decode cL_law 597 = .ok (.iload_n 3, 1) := by decide +kernel
theorem dL_law_598 : decode cL_law 598 = .ok (.iconst 1, 1) := by decide +kernel
theorem dL_law_599 : decode cL_law 599 = .ok (.iadd, 1) := by decide +kernel
theorem dL_law_600 : decode cL_law 600 = .ok (.iaload, 1) := by decide +kernel
theorem dL_law_601 : decode cL_law 601 = .ok (.invokevirtual 62, 3) := by decide +kernel
theorem dL_law_604 : decode cL_law 604 = .ok (.aload_n 2, 1) := by decide +kernel
theorem dL_law_605 : decode cL_law 605 = .ok (.aload_n 0, 1) := by decide +kernel
theorem dL_law_606 : decode cL_law 606 = .ok (.iload_n 3, 1) := by decide +kernel
theorem dL_law_607 : decode cL_law 607 = .ok (.iconst 1, 1) := by decide +kernel
theorem dL_law_608 : decode cL_law 608 = .ok (.iadd, 1) := by decide +kernel
theorem dL_law_609 : decode cL_law 609 = .ok (.iaload, 1) := by decide +kernel
theorem dL_law_610 : decode cL_law 610 = .ok (.invokevirtual 65, 3) := by decide +kernel
theorem dL_law_613 : decode cL_law 613 = .ok (.if_icmp .eq 1067, 3) := by decide +kernel
theorem dL_law_616 : decode cL_law 616 = .ok (.iconst 0, 1) := by decide +kernel
theorem dL_law_617 : decode cL_law 617 = .ok (.ireturn, 1) := by decide +kernel
theorem dL_law_618 : decode cL_law 618 = .ok (.aload_n 1, 1) := by decide +kernel
theorem dL_law_619 : decode cL_law 619 = .ok (.invokevirtual 66, 3) := by decide +kernel
theorem dL_law_622 : decode cL_law 622 = .ok (.aload_n 2, 1) := by decide +kernel
theorem dL_law_623 : decode cL_law 623 = .ok (.invokevirtual 69, 3) := by decide +kernel
theorem dL_law_626 : decode cL_law 626 = .ok (.if_icmp .eq 1054, 3) := by decide +kernel
theorem dL_law_629 : decode cL_law 629 = .ok (.iconst 0, 1) := by decide +kernel
theorem dL_law_630 : decode cL_law 630 = .ok (.ireturn, 1) := by decide +kernel
theorem dL_law_631 : decode cL_law 631 = .ok (.aload_n 1, 1) := by decide +kernel
theorem dL_law_632 : decode cL_law 632 = .ok (.aload_n 0, 1) := by decide +kernel
theorem dL_law_633 : decode cL_law 633 = .ok (.iload_n 3, 1) := by decide +kernel
theorem dL_law_634 : decode cL_law 634 = .ok (.iconst 1, 1) := by decide +kernel
theorem dL_law_635 : decode cL_law 635 = .ok (.iadd, 1) := by decide +kernel
theorem dL_law_636 : decode cL_law 636 = .ok (.iaload, 1) := by decide +kernel
theorem dL_law_637 : decode cL_law 637 = .ok (.invokevirtual 70, 3) := by decide +kernel
theorem dL_law_640 : decode cL_law 640 = .ok (.aload_n 2, 1) := by decide +kernel
theorem dL_law_641 : decode cL_law 641 = .ok (.aload_n 0, 1) := by decide +kernel
theorem dL_law_642 : decode cL_law 642 = .ok (.iload_n 3, 1) := by decide +kernel
theorem dL_law_643 : decode cL_law 643 = .ok (.iconst 1, 1) := by decide +kernel
theorem dL_law_644 : decode cL_law 644 = .ok (.iadd, 1) := by decide +kernel
theorem dL_law_645 : decode cL_law 645 = .ok (.iaload, 1) := by decide +kernel
theorem dL_law_646 : decode cL_law 646 = .ok (.invokevirtual 73, 3) := by decide +kernel
theorem dL_law_649 : decode cL_law 649 = .ok (.if_icmp .eq 1031, 3) := by decide +kernel
theorem dL_law_652 : decode cL_law 652 = .ok (.iconst 0, 1) := by decide +kernel
theorem dL_law_653 : decode cL_law 653 = .ok (.ireturn, 1) := by decide +kernel
theorem dL_law_654 : decode cL_law 654 = .ok (.aload_n 1, 1) := by decide +kernel
theorem dL_law_655 : decode cL_law 655 = .ok (.invokevirtual 74, 3) := by decide +kernel
theorem dL_law_658 : decode cL_law 658 = .ok (.aload_n 2, 1) := by decide +kernel
theorem dL_law_659 : decode cL_law 659 = .ok (.invokevirtual 77, 3) := by decide +kernel
theorem dL_law_662 : decode cL_law 662 = .ok (.if_icmp .eq 1018, 3) := by decide +kernel
theorem dL_law_665 : decode cL_law 665 = .ok (.iconst 0, 1) := by decide +kernel
theorem dL_law_666 : decode cL_law 666 = .ok (.ireturn, 1) := by decide +kernel
theorem dL_law_667 : decode cL_law 667 = .ok (.aload_n 1, 1) := by decide +kernel
theorem dL_law_668 : decode cL_law 668 = .ok (.aload_n 0, 1) := by decide +kernel
theorem dL_law_669 : decode cL_law 669 = .ok (.iload_n 3, 1) := by decide +kernel
theorem dL_law_670 : decode cL_law 670 = .ok (.iconst 1, 1) := by decide +kernel
theorem dL_law_671 : decode cL_law 671 = .ok (.iadd, 1) := by decide +kernel
theorem dL_law_672 : decode cL_law 672 = .ok (.iaload, 1) := by decide +kernel
theorem dL_law_673 : decode cL_law 673 = .ok (.aload_n 0, 1) := by decide +kernel
theorem dL_law_674 : decode cL_law 674 = .ok (.iload_n 3, 1) := by decide +kernel
theorem dL_law_675 : decode cL_law 675 = .ok (.iconst 2, 1) := by decide +kernel
theorem dL_law_676 : decode cL_law 676 = .ok (.iadd, 1) := by decide +kernel
theorem dL_law_677 : decode cL_law 677 = .ok (.iaload, 1) := by decide +kernel
theorem dL_law_678 : decode cL_law 678 = .ok (.aload_n 0, 1) := by decide +kernel
theorem dL_law_679 : decode cL_law 679 = .ok (.iload_n 3, 1) := by decide +kernel
theorem dL_law_680 : decode cL_law 680 = .ok (.iconst 3, 1) := by decide +kernel
theorem dL_law_681 : decode cL_law 681 = .ok (.iadd, 1) := by decide +kernel
theorem dL_law_682 : decode cL_law 682 = .ok (.iaload, 1) := by decide +kernel
theorem dL_law_683 : decode cL_law 683 = .ok (.invokevirtual 78, 3) := by decide +kernel
theorem dL_law_686 : decode cL_law 686 = .ok (.aload_n 2, 1) := by decide +kernel
theorem dL_law_687 : decode cL_law 687 = .ok (.aload_n 0, 1) := by decide +kernel
theorem dL_law_688 : decode cL_law 688 = .ok (.iload_n 3, 1) := by decide +kernel
theorem dL_law_689 : decode cL_law 689 = .ok (.iconst 1, 1) := by decide +kernel
theorem dL_law_690 : decode cL_law 690 = .ok (.iadd, 1) := by decide +kernel
theorem dL_law_691 : decode cL_law 691 = .ok (.iaload, 1) := by decide +kernel
theorem dL_law_692 : decode cL_law 692 = .ok (.aload_n 0, 1) := by decide +kernel
theorem dL_law_693 : decode cL_law 693 = .ok (.iload_n 3, 1) := by decide +kernel
theorem dL_law_694 : decode cL_law 694 = .ok (.iconst 2, 1) := by decide +kernel
theorem dL_law_695 : decode cL_law 695 = .ok (.iadd, 1) := by decide +kernel
theorem dL_law_696 : decode cL_law 696 = .ok (.iaload, 1) := by decide +kernel
theorem dL_law_697 : decode cL_law 697 = .ok (.aload_n 0, 1) := by decide +kernel
theorem dL_law_698 : decode cL_law 698 = .ok (.iload_n 3, 1) := by decide +kernel
theorem dL_law_699 : decode cL_law 699 = .ok (.iconst 3, 1) := by decide +kernel
theorem dL_law_700 : decode cL_law 700 = .ok (.iadd, 1) := by decide +kernel
theorem dL_law_701 : decode cL_law 701 = .ok (.iaload, 1) := by decide +kernel
theorem dL_law_702 : decode cL_law 702 = .ok (.invokevirtual 81, 3) := by decide +kernel
theorem dL_law_705 : decode cL_law 705 = .ok (.if_icmp .eq 975, 3) := by decide +kernel
theorem dL_law_708 : decode cL_law 708 = .ok (.iconst 0, 1) := by decide +kernel
theorem dL_law_709 : decode cL_law 709 = .ok (.ireturn, 1) := by decide +kernel
theorem dL_law_710 : decode cL_law 710 = .ok (.aload_n 1, 1) := by decide +kernel
theorem dL_law_711 : decode cL_law 711 = .ok (.aload_n 0, 1) := by decide +kernel
theorem dL_law_712 : decode cL_law 712 = .ok (.iload_n 3, 1) := by decide +kernel
theorem dL_law_713 : decode cL_law 713 = .ok (.iconst 1, 1) := by decide +kernel
theorem dL_law_714 : decode cL_law 714 = .ok (.iadd, 1) := by decide +kernel
theorem dL_law_715 : decode cL_law 715 = .ok (.iaload, 1) := by decide +kernel
theorem dL_law_716 : decode cL_law 716 = .ok (.aload_n 0, 1) := by decide +kernel
theorem dL_law_717 : decode cL_law 717 = .ok (.iload_n 3, 1) := by decide +kernel
theorem dL_law_718 : decode cL_law 718 = .ok (.iconst 2, 1) := by decide +kernel
theorem dL_law_719 : decode cL_law 719 = .ok (.iadd, 1) := by decide +kernel
theorem dL_law_720 : decode cL_law 720 = .ok (.iaload, 1) := by decide +kernel
theorem dL_law_721 : decode cL_law 721 = .ok (.invokevirtual 82, 3) := by decide +kernel
theorem dL_law_724 : decode cL_law 724 = .ok (.aload_n 2, 1) := by decide +kernel
theorem dL_law_725 : decode cL_law 725 = .ok (.aload_n 0, 1) := by decide +kernel
theorem dL_law_726 : decode cL_law 726 = .ok (.iload_n 3, 1) := by decide +kernel
theorem dL_law_727 : decode cL_law 727 = .ok (.iconst 1, 1) := by decide +kernel
theorem dL_law_728 : decode cL_law 728 = .ok (.iadd, 1) := by decide +kernel
theorem dL_law_729 : decode cL_law 729 = .ok (.iaload, 1) := by decide +kernel
theorem dL_law_730 : decode cL_law 730 = .ok (.aload_n 0, 1) := by decide +kernel
theorem dL_law_731 : decode cL_law 731 = .ok (.iload_n 3, 1) := by decide +kernel
theorem dL_law_732 : decode cL_law 732 = .ok (.iconst 2, 1) := by decide +kernel
theorem dL_law_733 : decode cL_law 733 = .ok (.iadd, 1) := by decide +kernel
theorem dL_law_734 : decode cL_law 734 = .ok (.iaload, 1) := by decide +kernel
theorem dL_law_735 : decode cL_law 735 = .ok (.invokevirtual 85, 3) := by decide +kernel
theorem dL_law_738 : decode cL_law 738 = .ok (.if_icmp .eq 942, 3) := by decide +kernel
theorem dL_law_741 : decode cL_law 741 = .ok (.iconst 0, 1) := by decide +kernel
theorem dL_law_742 : decode cL_law 742 = .ok (.ireturn, 1) := by decide +kernel
theorem dL_law_743 : decode cL_law 743 = .ok (.aload_n 1, 1) := by decide +kernel
theorem dL_law_744 : decode cL_law 744 = .ok (.aload_n 0, 1) := by decide +kernel
theorem dL_law_745 : decode cL_law 745 = .ok (.iload_n 3, 1) := by decide +kernel
theorem dL_law_746 : decode cL_law 746 = .ok (.iconst 1, 1) := by decide +kernel
theorem dL_law_747 : decode cL_law 747 = .ok (.iadd, 1) := by decide +kernel
theorem dL_law_748 : decode cL_law 748 = .ok (.iaload, 1) := by decide +kernel
theorem dL_law_749 : decode cL_law 749 = .ok (.aload_n 0, 1) := by decide +kernel
theorem dL_law_750 : decode cL_law 750 = .ok (.iload_n 3, 1) := by decide +kernel
theorem dL_law_751 : decode cL_law 751 = .ok (.iconst 2, 1) := by decide +kernel
theorem dL_law_752 : decode cL_law 752 = .ok (.iadd, 1) := by decide +kernel
theorem dL_law_753 : decode cL_law 753 = .ok (.iaload, 1) := by decide +kernel
theorem dL_law_754 : decode cL_law 754 = .ok (.aload_n 0, 1) := by decide +kernel
theorem dL_law_755 : decode cL_law 755 = .ok (.iload_n 3, 1) := by decide +kernel
theorem dL_law_756 : decode cL_law 756 = .ok (.iconst 3, 1) := by decide +kernel
theorem dL_law_757 : decode cL_law 757 = .ok (.iadd, 1) := by decide +kernel
theorem dL_law_758 : decode cL_law 758 = .ok (.iaload, 1) := by decide +kernel
theorem dL_law_759 : decode cL_law 759 = .ok (.invokevirtual 86, 3) := by decide +kernel
theorem dL_law_762 : decode cL_law 762 = .ok (.aload_n 2, 1) := by decide +kernel
theorem dL_law_763 : decode cL_law 763 = .ok (.aload_n 0, 1) := by decide +kernel
theorem dL_law_764 : decode cL_law 764 = .ok (.iload_n 3, 1) := by decide +kernel
theorem dL_law_765 : decode cL_law 765 = .ok (.iconst 1, 1) := by decide +kernel
theorem dL_law_766 : decode cL_law 766 = .ok (.iadd, 1) := by decide +kernel
theorem dL_law_767 : decode cL_law 767 = .ok (.iaload, 1) := by decide +kernel
theorem dL_law_768 : decode cL_law 768 = .ok (.aload_n 0, 1) := by decide +kernel
theorem dL_law_769 : decode cL_law 769 = .ok (.iload_n 3, 1) := by decide +kernel
theorem dL_law_770 : decode cL_law 770 = .ok (.iconst 2, 1) := by decide +kernel
theorem dL_law_771 : decode cL_law 771 = .ok (.iadd, 1) := by decide +kernel
theorem dL_law_772 : decode cL_law 772 = .ok (.iaload, 1) := by decide +kernel
theorem dL_law_773 : decode cL_law 773 = .ok (.aload_n 0, 1) := by decide +kernel
theorem dL_law_774 : decode cL_law 774 = .ok (.iload_n 3, 1) := by decide +kernel
theorem dL_law_775 : decode cL_law 775 = .ok (.iconst 3, 1) := by decide +kernel
theorem dL_law_776 : decode cL_law 776 = .ok (.iadd, 1) := by decide +kernel
theorem dL_law_777 : decode cL_law 777 = .ok (.iaload, 1) := by decide +kernel
theorem dL_law_778 : decode cL_law 778 = .ok (.invokevirtual 89, 3) := by decide +kernel
theorem dL_law_781 : decode cL_law 781 = .ok (.if_icmp .eq 899, 3) := by decide +kernel
theorem dL_law_784 : decode cL_law 784 = .ok (.iconst 0, 1) := by decide +kernel
theorem dL_law_785 : decode cL_law 785 = .ok (.ireturn, 1) := by decide +kernel
theorem dL_law_786 : decode cL_law 786 = .ok (.aload_n 1, 1) := by decide +kernel
theorem dL_law_787 : decode cL_law 787 = .ok (.aload_n 0, 1) := by decide +kernel
theorem dL_law_788 : decode cL_law 788 = .ok (.iload_n 3, 1) := by decide +kernel
theorem dL_law_789 : decode cL_law 789 = .ok (.iconst 1, 1) := by decide +kernel
theorem dL_law_790 : decode cL_law 790 = .ok (.iadd, 1) := by decide +kernel
theorem dL_law_791 : decode cL_law 791 = .ok (.iaload, 1) := by decide +kernel
theorem dL_law_792 : decode cL_law 792 = .ok (.aload_n 0, 1) := by decide +kernel
theorem dL_law_793 : decode cL_law 793 = .ok (.iload_n 3, 1) := by decide +kernel
theorem dL_law_794 : decode cL_law 794 = .ok (.iconst 2, 1) := by decide +kernel
theorem dL_law_795 : decode cL_law 795 = .ok (.iadd, 1) := by decide +kernel
theorem dL_law_796 : decode cL_law 796 = .ok (.iaload, 1) := by decide +kernel
theorem dL_law_797 : decode cL_law 797 = .ok (.invokevirtual 90, 3) := by decide +kernel
theorem dL_law_800 : decode cL_law 800 = .ok (.aload_n 2, 1) := by decide +kernel
theorem dL_law_801 : decode cL_law 801 = .ok (.aload_n 0, 1) := by decide +kernel
theorem dL_law_802 : decode cL_law 802 = .ok (.iload_n 3, 1) := by decide +kernel
theorem dL_law_803 : decode cL_law 803 = .ok (.iconst 1, 1) := by decide +kernel
theorem dL_law_804 : decode cL_law 804 = .ok (.iadd, 1) := by decide +kernel
theorem dL_law_805 : decode cL_law 805 = .ok (.iaload, 1) := by decide +kernel
theorem dL_law_806 : decode cL_law 806 = .ok (.aload_n 0, 1) := by decide +kernel
theorem dL_law_807 : decode cL_law 807 = .ok (.iload_n 3, 1) := by decide +kernel
theorem dL_law_808 : decode cL_law 808 = .ok (.iconst 2, 1) := by decide +kernel
theorem dL_law_809 : decode cL_law 809 = .ok (.iadd, 1) := by decide +kernel
theorem dL_law_810 : decode cL_law 810 = .ok (.iaload, 1) := by decide +kernel
theorem dL_law_811 : decode cL_law 811 = .ok (.invokevirtual 93, 3) := by decide +kernel
theorem dL_law_814 : decode cL_law 814 = .ok (.if_icmp .eq 866, 3) := by decide +kernel
theorem dL_law_817 : decode cL_law 817 = .ok (.iconst 0, 1) := by decide +kernel
theorem dL_law_818 : decode cL_law 818 = .ok (.ireturn, 1) := by decide +kernel
theorem dL_law_819 : decode cL_law 819 = .ok (.aload_n 1, 1) := by decide +kernel
theorem dL_law_820 : decode cL_law 820 = .ok (.aload_n 0, 1) := by decide +kernel
theorem dL_law_821 : decode cL_law 821 = .ok (.iload_n 3, 1) := by decide +kernel
theorem dL_law_822 : decode cL_law 822 = .ok (.iconst 1, 1) := by decide +kernel
theorem dL_law_823 : decode cL_law 823 = .ok (.iadd, 1) := by decide +kernel
theorem dL_law_824 : decode cL_law 824 = .ok (.iaload, 1) := by decide +kernel
theorem dL_law_825 : decode cL_law 825 = .ok (.aload_n 0, 1) := by decide +kernel
theorem dL_law_826 : decode cL_law 826 = .ok (.iload_n 3, 1) := by decide +kernel
theorem dL_law_827 : decode cL_law 827 = .ok (.iconst 2, 1) := by decide +kernel
theorem dL_law_828 : decode cL_law 828 = .ok (.iadd, 1) := by decide +kernel
theorem dL_law_829 : decode cL_law 829 = .ok (.iaload, 1) := by decide +kernel
theorem dL_law_830 : decode cL_law 830 = .ok (.invokevirtual 94, 3) := by decide +kernel
theorem dL_law_833 : decode cL_law 833 = .ok (.aload_n 2, 1) := by decide +kernel
theorem dL_law_834 : decode cL_law 834 = .ok (.aload_n 0, 1) := by decide +kernel
theorem dL_law_835 : decode cL_law 835 = .ok (.iload_n 3, 1) := by decide +kernel
theorem dL_law_836 : decode cL_law 836 = .ok (.iconst 1, 1) := by decide +kernel
theorem dL_law_837 : decode cL_law 837 = .ok (.iadd, 1) := by decide +kernel
theorem dL_law_838 : decode cL_law 838 = .ok (.iaload, 1) := by decide +kernel
theorem dL_law_839 : decode cL_law 839 = .ok (.aload_n 0, 1) := by decide +kernel
theorem dL_law_840 : decode cL_law 840 = .ok (.iload_n 3, 1) := by decide +kernel
theorem dL_law_841 : decode cL_law 841 = .ok (.iconst 2, 1) := by decide +kernel
theorem dL_law_842 : decode cL_law 842 = .ok (.iadd, 1) := by decide +kernel
theorem dL_law_843 : decode cL_law 843 = .ok (.iaload, 1) := by decide +kernel
theorem dL_law_844 : decode cL_law 844 = .ok (.invokevirtual 97, 3) := by decide +kernel
theorem dL_law_847 : decode cL_law 847 = .ok (.if_icmp .eq 833, 3) := by decide +kernel
theorem dL_law_850 : decode cL_law 850 = .ok (.iconst 0, 1) := by decide +kernel
theorem dL_law_851 : decode cL_law 851 = .ok (.ireturn, 1) := by decide +kernel
theorem dL_law_852 : decode cL_law 852 = .ok (.aload_n 1, 1) := by decide +kernel
theorem dL_law_853 : decode cL_law 853 = .ok (.aload_n 0, 1) := by decide +kernel
theorem dL_law_854 : decode cL_law 854 = .ok (.iload_n 3, 1) := by decide +kernel
theorem dL_law_855 : decode cL_law 855 = .ok (.iconst 1, 1) := by decide +kernel
theorem dL_law_856 : decode cL_law 856 = .ok (.iadd, 1) := by decide +kernel
theorem dL_law_857 : decode cL_law 857 = .ok (.iaload, 1) := by decide +kernel
theorem dL_law_858 : decode cL_law 858 = .ok (.invokevirtual 98, 3) := by decide +kernel
theorem dL_law_861 : decode cL_law 861 = .ok (.aload_n 2, 1) := by decide +kernel
theorem dL_law_862 : decode cL_law 862 = .ok (.aload_n 0, 1) := by decide +kernel
theorem dL_law_863 : decode cL_law 863 = .ok (.iload_n 3, 1) := by decide +kernel
theorem dL_law_864 : decode cL_law 864 = .ok (.iconst 1, 1) := by decide +kernel
theorem dL_law_865 : decode cL_law 865 = .ok (.iadd, 1) := by decide +kernel
theorem dL_law_866 : decode cL_law 866 = .ok (.iaload, 1) := by decide +kernel
theorem dL_law_867 : decode cL_law 867 = .ok (.invokevirtual 101, 3) := by decide +kernel
theorem dL_law_870 : decode cL_law 870 = .ok (.if_icmp .eq 810, 3) := by decide +kernel
theorem dL_law_873 : decode cL_law 873 = .ok (.iconst 0, 1) := by decide +kernel
theorem dL_law_874 : decode cL_law 874 = .ok (.ireturn, 1) := by decide +kernel
theorem dL_law_875 : decode cL_law 875 = .ok (.aload_n 1, 1) := by decide +kernel
theorem dL_law_876 : decode cL_law 876 = .ok (.aload_n 0, 1) := by decide +kernel
theorem dL_law_877 : decode cL_law 877 = .ok (.iload_n 3, 1) := by decide +kernel
theorem dL_law_878 : decode cL_law 878 = .ok (.iconst 1, 1) := by decide +kernel
theorem dL_law_879 : decode cL_law 879 = .ok (.iadd, 1) := by decide +kernel
theorem dL_law_880 : decode cL_law 880 = .ok (.iaload, 1) := by decide +kernel
theorem dL_law_881 : decode cL_law 881 = .ok (.aload_n 0, 1) := by decide +kernel
theorem dL_law_882 : decode cL_law 882 = .ok (.iload_n 3, 1) := by decide +kernel
theorem dL_law_883 : decode cL_law 883 = .ok (.iconst 2, 1) := by decide +kernel
theorem dL_law_884 : decode cL_law 884 = .ok (.iadd, 1) := by decide +kernel
theorem dL_law_885 : decode cL_law 885 = .ok (.iaload, 1) := by decide +kernel
theorem dL_law_886 : decode cL_law 886 = .ok (.aload_n 0, 1) := by decide +kernel
theorem dL_law_887 : decode cL_law 887 = .ok (.iload_n 3, 1) := by decide +kernel
theorem dL_law_888 : decode cL_law 888 = .ok (.iconst 3, 1) := by decide +kernel
theorem dL_law_889 : decode cL_law 889 = .ok (.iadd, 1) := by decide +kernel
theorem dL_law_890 : decode cL_law 890 = .ok (.iaload, 1) := by decide +kernel
theorem dL_law_891 : decode cL_law 891 = .ok (.invokevirtual 102, 3) := by decide +kernel
theorem dL_law_894 : decode cL_law 894 = .ok (.aload_n 2, 1) := by decide +kernel
theorem dL_law_895 : decode cL_law 895 = .ok (.aload_n 0, 1) := by decide +kernel
theorem dL_law_896 : decode cL_law 896 = .ok (.iload_n 3, 1) := by decide +kernel
theorem dL_law_897 : decode cL_law 897 = .ok (.iconst 1, 1) := by decide +kernel
theorem dL_law_898 : decode cL_law 898 = .ok (.iadd, 1) := by decide +kernel
theorem dL_law_899 : decode cL_law 899 = .ok (.iaload, 1) := by decide +kernel
theorem dL_law_900 : decode cL_law 900 = .ok (.aload_n 0, 1) := by decide +kernel
theorem dL_law_901 : decode cL_law 901 = .ok (.iload_n 3, 1) := by decide +kernel
theorem dL_law_902 : decode cL_law 902 = .ok (.iconst 2, 1) := by decide +kernel
theorem dL_law_903 : decode cL_law 903 = .ok (.iadd, 1) := by decide +kernel
theorem dL_law_904 : decode cL_law 904 = .ok (.iaload, 1) := by decide +kernel
theorem dL_law_905 : decode cL_law 905 = .ok (.aload_n 0, 1) := by decide +kernel
theorem dL_law_906 : decode cL_law 906 = .ok (.iload_n 3, 1) := by decide +kernel
theorem dL_law_907 : decode cL_law 907 = .ok (.iconst 3, 1) := by decide +kernel
theorem dL_law_908 : decode cL_law 908 = .ok (.iadd, 1) := by decide +kernel
theorem dL_law_909 : decode cL_law 909 = .ok (.iaload, 1) := by decide +kernel
theorem dL_law_910 : decode cL_law 910 = .ok (.invokevirtual 105, 3) := by decide +kernel
theorem dL_law_913 : decode cL_law 913 = .ok (.if_icmp .eq 767, 3) := by decide +kernel
theorem dL_law_916 : decode cL_law 916 = .ok (.iconst 0, 1) := by decide +kernel
theorem dL_law_917 : decode cL_law 917 = .ok (.ireturn, 1) := by decide +kernel
theorem dL_law_918 : decode cL_law 918 = .ok (.aload_n 1, 1) := by decide +kernel
theorem dL_law_919 : decode cL_law 919 = .ok (.aload_n 0, 1) := by decide +kernel
theorem dL_law_920 : decode cL_law 920 = .ok (.iload_n 3, 1) := by decide +kernel
theorem dL_law_921 : decode cL_law 921 = .ok (.iconst 1, 1) := by decide +kernel
theorem dL_law_922 : decode cL_law 922 = .ok (.iadd, 1) := by decide +kernel
theorem dL_law_923 : decode cL_law 923 = .ok (.iaload, 1) := by decide +kernel
theorem dL_law_924 : decode cL_law 924 = .ok (.aload_n 0, 1) := by decide +kernel
theorem dL_law_925 : decode cL_law 925 = .ok (.iload_n 3, 1) := by decide +kernel
theorem dL_law_926 : decode cL_law 926 = .ok (.iconst 2, 1) := by decide +kernel
theorem dL_law_927 : decode cL_law 927 = .ok (.iadd, 1) := by decide +kernel
theorem dL_law_928 : decode cL_law 928 = .ok (.iaload, 1) := by decide +kernel
theorem dL_law_929 : decode cL_law 929 = .ok (.aload_n 0, 1) := by decide +kernel
theorem dL_law_930 : decode cL_law 930 = .ok (.iload_n 3, 1) := by decide +kernel
theorem dL_law_931 : decode cL_law 931 = .ok (.iconst 3, 1) := by decide +kernel
theorem dL_law_932 : decode cL_law 932 = .ok (.iadd, 1) := by decide +kernel
theorem dL_law_933 : decode cL_law 933 = .ok (.iaload, 1) := by decide +kernel
theorem dL_law_934 : decode cL_law 934 = .ok (.invokevirtual 106, 3) := by decide +kernel
theorem dL_law_937 : decode cL_law 937 = .ok (.aload_n 2, 1) := by decide +kernel
theorem dL_law_938 : decode cL_law 938 = .ok (.aload_n 0, 1) := by decide +kernel
theorem dL_law_939 : decode cL_law 939 = .ok (.iload_n 3, 1) := by decide +kernel
theorem dL_law_940 : decode cL_law 940 = .ok (.iconst 1, 1) := by decide +kernel
theorem dL_law_941 : decode cL_law 941 = .ok (.iadd, 1) := by decide +kernel
theorem dL_law_942 : decode cL_law 942 = .ok (.iaload, 1) := by decide +kernel
theorem dL_law_943 : decode cL_law 943 = .ok (.aload_n 0, 1) := by decide +kernel
theorem dL_law_944 : decode cL_law 944 = .ok (.iload_n 3, 1) := by decide +kernel
theorem dL_law_945 : decode cL_law 945 = .ok (.iconst 2, 1) := by decide +kernel
theorem dL_law_946 : decode cL_law 946 = .ok (.iadd, 1) := by decide +kernel
theorem dL_law_947 : decode cL_law 947 = .ok (.iaload, 1) := by decide +kernel
theorem dL_law_948 : decode cL_law 948 = .ok (.aload_n 0, 1) := by decide +kernel
theorem dL_law_949 : decode cL_law 949 = .ok (.iload_n 3, 1) := by decide +kernel
theorem dL_law_950 : decode cL_law 950 = .ok (.iconst 3, 1) := by decide +kernel
theorem dL_law_951 : decode cL_law 951 = .ok (.iadd, 1) := by decide +kernel
theorem dL_law_952 : decode cL_law 952 = .ok (.iaload, 1) := by decide +kernel
theorem dL_law_953 : decode cL_law 953 = .ok (.invokevirtual 109, 3) := by decide +kernel
theorem dL_law_956 : decode cL_law 956 = .ok (.if_icmp .eq 724, 3) := by decide +kernel
theorem dL_law_959 : decode cL_law 959 = .ok (.iconst 0, 1) := by decide +kernel
theorem dL_law_960 : decode cL_law 960 = .ok (.ireturn, 1) := by decide +kernel
theorem dL_law_961 : decode cL_law 961 = .ok (.aload_n 1, 1) := by decide +kernel
theorem dL_law_962 : decode cL_law 962 = .ok (.aload_n 0, 1) := by decide +kernel
theorem dL_law_963 : decode cL_law 963 = .ok (.iload_n 3, 1) := by decide +kernel
theorem dL_law_964 : decode cL_law 964 = .ok (.iconst 1, 1) := by decide +kernel
theorem dL_law_965 : decode cL_law 965 = .ok (.iadd, 1) := by decide +kernel
theorem dL_law_966 : decode cL_law 966 = .ok (.iaload, 1) := by decide +kernel
theorem dL_law_967 : decode cL_law 967 = .ok (.invokevirtual 110, 3) := by decide +kernel
theorem dL_law_970 : decode cL_law 970 = .ok (.aload_n 2, 1) := by decide +kernel
theorem dL_law_971 : decode cL_law 971 = .ok (.aload_n 0, 1) := by decide +kernel
theorem dL_law_972 : decode cL_law 972 = .ok (.iload_n 3, 1) := by decide +kernel
theorem dL_law_973 : decode cL_law 973 = .ok (.iconst 1, 1) := by decide +kernel
theorem dL_law_974 : decode cL_law 974 = .ok (.iadd, 1) := by decide +kernel
theorem dL_law_975 : decode cL_law 975 = .ok (.iaload, 1) := by decide +kernel
theorem dL_law_976 : decode cL_law 976 = .ok (.invokevirtual 113, 3) := by decide +kernel
theorem dL_law_979 : decode cL_law 979 = .ok (.if_icmp .eq 701, 3) := by decide +kernel
theorem dL_law_982 : decode cL_law 982 = .ok (.iconst 0, 1) := by decide +kernel
theorem dL_law_983 : decode cL_law 983 = .ok (.ireturn, 1) := by decide +kernel
theorem dL_law_984 : decode cL_law 984 = .ok (.aload_n 1, 1) := by decide +kernel
theorem dL_law_985 : decode cL_law 985 = .ok (.aload_n 0, 1) := by decide +kernel
theorem dL_law_986 : decode cL_law 986 = .ok (.iload_n 3, 1) := by decide +kernel
theorem dL_law_987 : decode cL_law 987 = .ok (.iconst 1, 1) := by decide +kernel
theorem dL_law_988 : decode cL_law 988 = .ok (.iadd, 1) := by decide +kernel
theorem dL_law_989 : decode cL_law 989 = .ok (.iaload, 1) := by decide +kernel
theorem dL_law_990 : decode cL_law 990 = .ok (.aload_n 0, 1) := by decide +kernel
theorem dL_law_991 : decode cL_law 991 = .ok (.iload_n 3, 1) := by decide +kernel
theorem dL_law_992 : decode cL_law 992 = .ok (.iconst 2, 1) := by decide +kernel
theorem dL_law_993 : decode cL_law 993 = .ok (.iadd, 1) := by decide +kernel
theorem dL_law_994 : decode cL_law 994 = .ok (.iaload, 1) := by decide +kernel
theorem dL_law_995 : decode cL_law 995 = .ok (.invokevirtual 114, 3) := by decide +kernel
theorem dL_law_998 : decode cL_law 998 = .ok (.aload_n 2, 1) := by decide +kernel
theorem dL_law_999 : decode cL_law 999 = .ok (.aload_n 0, 1) := by decide +kernel
theorem dL_law_1000 : decode cL_law 1000 = .ok (.iload_n 3, 1) := by decide +kernel
theorem dL_law_1001 : decode cL_law 1001 = .ok (.iconst 1, 1) := by decide +kernel
theorem dL_law_1002 : decode cL_law 1002 = .ok (.iadd, 1) := by decide +kernel
theorem dL_law_1003 : decode cL_law 1003 = .ok (.iaload, 1) := by decide +kernel
theorem dL_law_1004 : decode cL_law 1004 = .ok (.aload_n 0, 1) := by decide +kernel
theorem dL_law_1005 : decode cL_law 1005 = .ok (.iload_n 3, 1) := by decide +kernel
theorem dL_law_1006 : decode cL_law 1006 = .ok (.iconst 2, 1) := by decide +kernel
theorem dL_law_1007 : decode cL_law 1007 = .ok (.iadd, 1) := by decide +kernel
theorem dL_law_1008 : decode cL_law 1008 = .ok (.iaload, 1) := by decide +kernel
theorem dL_law_1009 : decode cL_law 1009 = .ok (.invokevirtual 117, 3) := by decide +kernel
theorem dL_law_1012 : decode cL_law 1012 = .ok (.if_icmp .eq 668, 3) := by decide +kernel
theorem dL_law_1015 : decode cL_law 1015 = .ok (.iconst 0, 1) := by decide +kernel
theorem dL_law_1016 : decode cL_law 1016 = .ok (.ireturn, 1) := by decide +kernel
theorem dL_law_1017 : decode cL_law 1017 = .ok (.aload_n 1, 1) := by decide +kernel
theorem dL_law_1018 : decode cL_law 1018 = .ok (.aload_n 0, 1) := by decide +kernel
theorem dL_law_1019 : decode cL_law 1019 = .ok (.iload_n 3, 1) := by decide +kernel
theorem dL_law_1020 : decode cL_law 1020 = .ok (.iconst 1, 1) := by decide +kernel
theorem dL_law_1021 : decode cL_law 1021 = .ok (.iadd, 1) := by decide +kernel
theorem dL_law_1022 : decode cL_law 1022 = .ok (.iaload, 1) := by decide +kernel
theorem dL_law_1023 : decode cL_law 1023 = .ok (.invokevirtual 118, 3) := by decide +kernel
theorem dL_law_1026 : decode cL_law 1026 = .ok (.aload_n 2, 1) := by decide +kernel
theorem dL_law_1027 : decode cL_law 1027 = .ok (.aload_n 0, 1) := by decide +kernel
theorem dL_law_1028 : decode cL_law 1028 = .ok (.iload_n 3, 1) := by decide +kernel
theorem dL_law_1029 : decode cL_law 1029 = .ok (.iconst 1, 1) := by decide +kernel
theorem dL_law_1030 : decode cL_law 1030 = .ok (.iadd, 1) := by decide +kernel
theorem dL_law_1031 : decode cL_law 1031 = .ok (.iaload, 1) := by decide +kernel
theorem dL_law_1032 : decode cL_law 1032 = .ok (.invokevirtual 121, 3) := by decide +kernel
theorem dL_law_1035 : decode cL_law 1035 = .ok (.if_icmp .eq 645, 3) := by decide +kernel
theorem dL_law_1038 : decode cL_law 1038 = .ok (.iconst 0, 1) := by decide +kernel
theorem dL_law_1039 : decode cL_law 1039 = .ok (.ireturn, 1) := by decide +kernel
theorem dL_law_1040 : decode cL_law 1040 = .ok (.aload_n 1, 1) := by decide +kernel
theorem dL_law_1041 : decode cL_law 1041 = .ok (.aload_n 0, 1) := by decide +kernel
theorem dL_law_1042 : decode cL_law 1042 = .ok (.iload_n 3, 1) := by decide +kernel
theorem dL_law_1043 : decode cL_law 1043 = .ok (.iconst 1, 1) := by decide +kernel
theorem dL_law_1044 : decode cL_law 1044 = .ok (.iadd, 1) := by decide +kernel
theorem dL_law_1045 : decode cL_law 1045 = .ok (.iaload, 1) := by decide +kernel
theorem dL_law_1046 : decode cL_law 1046 = .ok (.aload_n 0, 1) := by decide +kernel
theorem dL_law_1047 : decode cL_law 1047 = .ok (.iload_n 3, 1) := by decide +kernel
theorem dL_law_1048 : decode cL_law 1048 = .ok (.iconst 2, 1) := by decide +kernel
theorem dL_law_1049 : decode cL_law 1049 = .ok (.iadd, 1) := by decide +kernel
theorem dL_law_1050 : decode cL_law 1050 = .ok (.iaload, 1) := by decide +kernel
theorem dL_law_1051 : decode cL_law 1051 = .ok (.aload_n 0, 1) := by decide +kernel
theorem dL_law_1052 : decode cL_law 1052 = .ok (.iload_n 3, 1) := by decide +kernel
theorem dL_law_1053 : decode cL_law 1053 = .ok (.iconst 3, 1) := by decide +kernel
theorem dL_law_1054 : decode cL_law 1054 = .ok (.iadd, 1) := by decide +kernel
theorem dL_law_1055 : decode cL_law 1055 = .ok (.iaload, 1) := by decide +kernel
theorem dL_law_1056 : decode cL_law 1056 = .ok (.aload_n 0, 1) := by decide +kernel
theorem dL_law_1057 : decode cL_law 1057 = .ok (.iload_n 3, 1) := by decide +kernel
theorem dL_law_1058 : decode cL_law 1058 = .ok (.iconst 4, 1) := by decide +kernel
theorem dL_law_1059 : decode cL_law 1059 = .ok (.iadd, 1) := by decide +kernel
theorem dL_law_1060 : decode cL_law 1060 = .ok (.iaload, 1) := by decide +kernel
theorem dL_law_1061 : decode cL_law 1061 = .ok (.invokevirtual 122, 3) := by decide +kernel
theorem dL_law_1064 : decode cL_law 1064 = .ok (.aload_n 2, 1) := by decide +kernel
theorem dL_law_1065 : decode cL_law 1065 = .ok (.aload_n 0, 1) := by decide +kernel
theorem dL_law_1066 : decode cL_law 1066 = .ok (.iload_n 3, 1) := by decide +kernel
theorem dL_law_1067 : decode cL_law 1067 = .ok (.iconst 1, 1) := by decide +kernel
theorem dL_law_1068 : decode cL_law 1068 = .ok (.iadd, 1) := by decide +kernel
theorem dL_law_1069 : decode cL_law 1069 = .ok (.iaload, 1) := by decide +kernel
theorem dL_law_1070 : decode cL_law 1070 = .ok (.aload_n 0, 1) := by decide +kernel
theorem dL_law_1071 : decode cL_law 1071 = .ok (.iload_n 3, 1) := by decide +kernel
theorem dL_law_1072 : decode cL_law 1072 = .ok (.iconst 2, 1) := by decide +kernel
theorem dL_law_1073 : decode cL_law 1073 = .ok (.iadd, 1) := by decide +kernel
theorem dL_law_1074 : decode cL_law 1074 = .ok (.iaload, 1) := by decide +kernel
theorem dL_law_1075 : decode cL_law 1075 = .ok (.aload_n 0, 1) := by decide +kernel
theorem dL_law_1076 : decode cL_law 1076 = .ok (.iload_n 3, 1) := by decide +kernel
theorem dL_law_1077 : decode cL_law 1077 = .ok (.iconst 3, 1) := by decide +kernel
theorem dL_law_1078 : decode cL_law 1078 = .ok (.iadd, 1) := by decide +kernel
theorem dL_law_1079 : decode cL_law 1079 = .ok (.iaload, 1) := by decide +kernel
theorem dL_law_1080 : decode cL_law 1080 = .ok (.aload_n 0, 1) := by decide +kernel
theorem dL_law_1081 : decode cL_law 1081 = .ok (.iload_n 3, 1) := by decide +kernel
theorem dL_law_1082 : decode cL_law 1082 = .ok (.iconst 4, 1) := by decide +kernel
theorem dL_law_1083 : decode cL_law 1083 = .ok (.iadd, 1) := by decide +kernel
theorem dL_law_1084 : decode cL_law 1084 = .ok (.iaload, 1) := by decide +kernel
theorem dL_law_1085 : decode cL_law 1085 = .ok (.invokevirtual 125, 3) := by decide +kernel
theorem dL_law_1088 : decode cL_law 1088 = .ok (.if_icmp .eq 592, 3) := by decide +kernel
theorem dL_law_1091 : decode cL_law 1091 = .ok (.iconst 0, 1) := by decide +kernel
theorem dL_law_1092 : decode cL_law 1092 = .ok (.ireturn, 1) := by decide +kernel
theorem dL_law_1093 : decode cL_law 1093 = .ok (.aload_n 1, 1) := by decide +kernel
theorem dL_law_1094 : decode cL_law 1094 = .ok (.aload_n 0, 1) := by decide +kernel
theorem dL_law_1095 : decode cL_law 1095 = .ok (.iload_n 3, 1) := by decide +kernel
theorem dL_law_1096 : decode cL_law 1096 = .ok (.iconst 1, 1) := by decide +kernel
theorem dL_law_1097 : decode cL_law 1097 = .ok (.iadd, 1) := by decide +kernel
theorem dL_law_1098 : decode cL_law 1098 = .ok (.iaload, 1) := by decide +kernel
theorem dL_law_1099 : decode cL_law 1099 = .ok (.aload_n 0, 1) := by decide +kernel
theorem dL_law_1100 : decode cL_law 1100 = .ok (.iload_n 3, 1) := by decide +kernel
theorem dL_law_1101 : decode cL_law 1101 = .ok (.iconst 2, 1) := by decide +kernel
theorem dL_law_1102 : decode cL_law 1102 = .ok (.iadd, 1) := by decide +kernel
theorem dL_law_1103 : decode cL_law 1103 = .ok (.iaload, 1) := by decide +kernel
theorem dL_law_1104 : decode cL_law 1104 = .ok (.invokevirtual 126, 3) := by decide +kernel
theorem dL_law_1107 : decode cL_law 1107 = .ok (.aload_n 2, 1) := by decide +kernel
theorem dL_law_1108 : decode cL_law 1108 = .ok (.aload_n 0, 1) := by decide +kernel
theorem dL_law_1109 : decode cL_law 1109 = .ok (.iload_n 3, 1) := by decide +kernel
theorem dL_law_1110 : decode cL_law 1110 = .ok (.iconst 1, 1) := by decide +kernel
theorem dL_law_1111 : decode cL_law 1111 = .ok (.iadd, 1) := by decide +kernel
theorem dL_law_1112 : decode cL_law 1112 = .ok (.iaload, 1) := by decide +kernel
theorem dL_law_1113 : decode cL_law 1113 = .ok (.aload_n 0, 1) := by decide +kernel
theorem dL_law_1114 : decode cL_law 1114 = .ok (.iload_n 3, 1) := by decide +kernel
theorem dL_law_1115 : decode cL_law 1115 = .ok (.iconst 2, 1) := by decide +kernel
theorem dL_law_1116 : decode cL_law 1116 = .ok (.iadd, 1) := by decide +kernel
theorem dL_law_1117 : decode cL_law 1117 = .ok (.iaload, 1) := by decide +kernel
theorem dL_law_1118 : decode cL_law 1118 = .ok (.invokevirtual 129, 3) := by decide +kernel
theorem dL_law_1121 : decode cL_law 1121 = .ok (.if_icmp .eq 559, 3) := by decide +kernel
theorem dL_law_1124 : decode cL_law 1124 = .ok (.iconst 0, 1) := by decide +kernel
theorem dL_law_1125 : decode cL_law 1125 = .ok (.ireturn, 1) := by decide +kernel
theorem dL_law_1126 : decode cL_law 1126 = .ok (.aload_n 1, 1) := by decide +kernel
theorem dL_law_1127 : decode cL_law 1127 = .ok (.invokevirtual 130, 3) := by decide +kernel
theorem dL_law_1130 : decode cL_law 1130 = .ok (.aload_n 2, 1) := by decide +kernel
theorem dL_law_1131 : decode cL_law 1131 = .ok (.invokevirtual 133, 3) := by decide +kernel
theorem dL_law_1134 : decode cL_law 1134 = .ok (.if_icmp .eq 546, 3) := by decide +kernel
theorem dL_law_1137 : decode cL_law 1137 = .ok (.iconst 0, 1) := by decide +kernel
theorem dL_law_1138 : decode cL_law 1138 = .ok (.ireturn, 1) := by decide +kernel
theorem dL_law_1139 : decode cL_law 1139 = .ok (.aload_n 1, 1) := by decide +kernel
theorem dL_law_1140 : decode cL_law 1140 = .ok (.aload_n 0, 1) := by decide +kernel
theorem dL_law_1141 : decode cL_law 1141 = .ok (.iload_n 3, 1) := by decide +kernel
theorem dL_law_1142 : decode cL_law 1142 = .ok (.iconst 1, 1) := by decide +kernel
theorem dL_law_1143 : decode cL_law 1143 = .ok (.iadd, 1) := by decide +kernel
theorem dL_law_1144 : decode cL_law 1144 = .ok (.iaload, 1) := by decide +kernel
theorem dL_law_1145 : decode cL_law 1145 = .ok (.aload_n 0, 1) := by decide +kernel
theorem dL_law_1146 : decode cL_law 1146 = .ok (.iload_n 3, 1) := by decide +kernel
theorem dL_law_1147 : decode cL_law 1147 = .ok (.iconst 2, 1) := by decide +kernel
theorem dL_law_1148 : decode cL_law 1148 = .ok (.iadd, 1) := by decide +kernel
theorem dL_law_1149 : decode cL_law 1149 = .ok (.iaload, 1) := by decide +kernel
theorem dL_law_1150 : decode cL_law 1150 = .ok (.invokevirtual 134, 3) := by decide +kernel
theorem dL_law_1153 : decode cL_law 1153 = .ok (.aload_n 2, 1) := by decide +kernel
theorem dL_law_1154 : decode cL_law 1154 = .ok (.aload_n 0, 1) := by decide +kernel
theorem dL_law_1155 : decode cL_law 1155 = .ok (.iload_n 3, 1) := by decide +kernel
theorem dL_law_1156 : decode cL_law 1156 = .ok (.iconst 1, 1) := by decide +kernel
theorem dL_law_1157 : decode cL_law 1157 = .ok (.iadd, 1) := by decide +kernel
theorem dL_law_1158 : decode cL_law 1158 = .ok (.iaload, 1) := by decide +kernel
theorem dL_law_1159 : decode cL_law 1159 = .ok (.aload_n 0, 1) := by decide +kernel
theorem dL_law_1160 : decode cL_law 1160 = .ok (.iload_n 3, 1) := by decide +kernel
theorem dL_law_1161 : decode cL_law 1161 = .ok (.iconst 2, 1) := by decide +kernel
theorem dL_law_1162 : decode cL_law 1162 = .ok (.iadd, 1) := by decide +kernel
theorem dL_law_1163 : decode cL_law 1163 = .ok (.iaload, 1) := by decide +kernel
theorem dL_law_1164 : decode cL_law 1164 = .ok (.invokevirtual 137, 3) := by decide +kernel
theorem dL_law_1167 : decode cL_law 1167 = .ok (.if_icmp .eq 513, 3) := by decide +kernel
theorem dL_law_1170 : decode cL_law 1170 = .ok (.iconst 0, 1) := by decide +kernel
theorem dL_law_1171 : decode cL_law 1171 = .ok (.ireturn, 1) := by decide +kernel
theorem dL_law_1172 : decode cL_law 1172 = .ok (.aload_n 1, 1) := by decide +kernel
theorem dL_law_1173 : decode cL_law 1173 = .ok (.invokevirtual 138, 3) := by decide +kernel
theorem dL_law_1176 : decode cL_law 1176 = .ok (.aload_n 2, 1) := by decide +kernel
theorem dL_law_1177 : decode cL_law 1177 = .ok (.invokevirtual 141, 3) := by decide +kernel
theorem dL_law_1180 : decode cL_law 1180 = .ok (.if_icmp .eq 500, 3) := by decide +kernel
theorem dL_law_1183 : decode cL_law 1183 = .ok (.iconst 0, 1) := by decide +kernel
theorem dL_law_1184 : decode cL_law 1184 = .ok (.ireturn, 1) := by decide +kernel
theorem dL_law_1185 : decode cL_law 1185 = .ok (.aload_n 1, 1) := by decide +kernel
theorem dL_law_1186 : decode cL_law 1186 = .ok (.aload_n 0, 1) := by decide +kernel
theorem dL_law_1187 : decode cL_law 1187 = .ok (.iload_n 3, 1) := by decide +kernel
theorem dL_law_1188 : decode cL_law 1188 = .ok (.iconst 1, 1) := by decide +kernel
theorem dL_law_1189 : decode cL_law 1189 = .ok (.iadd, 1) := by decide +kernel
theorem dL_law_1190 : decode cL_law 1190 = .ok (.iaload, 1) := by decide +kernel
theorem dL_law_1191 : decode cL_law 1191 = .ok (.invokevirtual 142, 3) := by decide +kernel
theorem dL_law_1194 : decode cL_law 1194 = .ok (.aload_n 2, 1) := by decide +kernel
theorem dL_law_1195 : decode cL_law 1195 = .ok (.aload_n 0, 1) := by decide +kernel
theorem dL_law_1196 : decode cL_law 1196 = .ok (.iload_n 3, 1) := by decide +kernel
theorem dL_law_1197 : decode cL_law 1197 = .ok (.iconst 1, 1) := by decide +kernel
theorem dL_law_1198 : decode cL_law 1198 = .ok (.iadd, 1) := by decide +kernel
theorem dL_law_1199 : decode cL_law 1199 = .ok (.iaload, 1) := by decide +kernel
theorem dL_law_1200 : decode cL_law 1200 = .ok (.invokevirtual 145, 3) := by decide +kernel
theorem dL_law_1203 : decode cL_law 1203 = .ok (.if_icmp .eq 477, 3) := by decide +kernel
theorem dL_law_1206 : decode cL_law 1206 = .ok (.iconst 0, 1) := by decide +kernel
theorem dL_law_1207 : decode cL_law 1207 = .ok (.ireturn, 1) := by decide +kernel
theorem dL_law_1208 : decode cL_law 1208 = .ok (.aload_n 1, 1) := by decide +kernel
theorem dL_law_1209 : decode cL_law 1209 = .ok (.aload_n 0, 1) := by decide +kernel
theorem dL_law_1210 : decode cL_law 1210 = .ok (.iload_n 3, 1) := by decide +kernel
theorem dL_law_1211 : decode cL_law 1211 = .ok (.iconst 1, 1) := by decide +kernel
theorem dL_law_1212 : decode cL_law 1212 = .ok (.iadd, 1) := by decide +kernel
theorem dL_law_1213 : decode cL_law 1213 = .ok (.iaload, 1) := by decide +kernel
theorem dL_law_1214 : decode cL_law 1214 = .ok (.aload_n 0, 1) := by decide +kernel
theorem dL_law_1215 : decode cL_law 1215 = .ok (.iload_n 3, 1) := by decide +kernel
theorem dL_law_1216 : decode cL_law 1216 = .ok (.iconst 2, 1) := by decide +kernel
theorem dL_law_1217 : decode cL_law 1217 = .ok (.iadd, 1) := by decide +kernel
theorem dL_law_1218 : decode cL_law 1218 = .ok (.iaload, 1) := by decide +kernel
theorem dL_law_1219 : decode cL_law 1219 = .ok (.aload_n 0, 1) := by decide +kernel
theorem dL_law_1220 : decode cL_law 1220 = .ok (.iload_n 3, 1) := by decide +kernel
theorem dL_law_1221 : decode cL_law 1221 = .ok (.iconst 3, 1) := by decide +kernel
theorem dL_law_1222 : decode cL_law 1222 = .ok (.iadd, 1) := by decide +kernel
theorem dL_law_1223 : decode cL_law 1223 = .ok (.iaload, 1) := by decide +kernel
theorem dL_law_1224 : decode cL_law 1224 = .ok (.invokevirtual 146, 3) := by decide +kernel
theorem dL_law_1227 : decode cL_law 1227 = .ok (.aload_n 2, 1) := by decide +kernel
theorem dL_law_1228 : decode cL_law 1228 = .ok (.aload_n 0, 1) := by decide +kernel
theorem dL_law_1229 : decode cL_law 1229 = .ok (.iload_n 3, 1) := by decide +kernel
theorem dL_law_1230 : decode cL_law 1230 = .ok (.iconst 1, 1) := by decide +kernel
theorem dL_law_1231 : decode cL_law 1231 = .ok (.iadd, 1) := by decide +kernel
theorem dL_law_1232 : decode cL_law 1232 = .ok (.iaload, 1) := by decide +kernel
theorem dL_law_1233 : decode cL_law 1233 = .ok (.aload_n 0, 1) := by decide +kernel
theorem dL_law_1234 : decode cL_law 1234 = .ok (.iload_n 3, 1) := by decide +kernel
theorem dL_law_1235 : decode cL_law 1235 = .ok (.iconst 2, 1) := by decide +kernel
theorem dL_law_1236 : decode cL_law 1236 = .ok (.iadd, 1) := by decide +kernel
theorem dL_law_1237 : decode cL_law 1237 = .ok (.iaload, 1) := by decide +kernel
theorem dL_law_1238 : decode cL_law 1238 = .ok (.aload_n 0, 1) := by decide +kernel
theorem dL_law_1239 : decode cL_law 1239 = .ok (.iload_n 3, 1) := by decide +kernel
theorem dL_law_1240 : decode cL_law 1240 = .ok (.iconst 3, 1) := by decide +kernel
theorem dL_law_1241 : decode cL_law 1241 = .ok (.iadd, 1) := by decide +kernel
theorem dL_law_1242 : decode cL_law 1242 = .ok (.iaload, 1) := by decide +kernel
theorem dL_law_1243 : decode cL_law 1243 = .ok (.invokevirtual 149, 3) := by decide +kernel
theorem dL_law_1246 : decode cL_law 1246 = .ok (.if_icmp .eq 434, 3) := by decide +kernel
theorem dL_law_1249 : decode cL_law 1249 = .ok (.iconst 0, 1) := by decide +kernel
theorem dL_law_1250 : decode cL_law 1250 = .ok (.ireturn, 1) := by decide +kernel
theorem dL_law_1251 : decode cL_law 1251 = .ok (.aload_n 1, 1) := by decide +kernel
theorem dL_law_1252 : decode cL_law 1252 = .ok (.aload_n 0, 1) := by decide +kernel
theorem dL_law_1253 : decode cL_law 1253 = .ok (.iload_n 3, 1) := by decide +kernel
theorem dL_law_1254 : decode cL_law 1254 = .ok (.iconst 1, 1) := by decide +kernel
theorem dL_law_1255 : decode cL_law 1255 = .ok (.iadd, 1) := by decide +kernel
theorem dL_law_1256 : decode cL_law 1256 = .ok (.iaload, 1) := by decide +kernel
theorem dL_law_1257 : decode cL_law 1257 = .ok (.aload_n 0, 1) := by decide +kernel
theorem dL_law_1258 : decode cL_law 1258 = .ok (.iload_n 3, 1) := by decide +kernel
theorem dL_law_1259 : decode cL_law 1259 = .ok (.iconst 2, 1) := by decide +kernel
theorem dL_law_1260 : decode cL_law 1260 = .ok (.iadd, 1) := by decide +kernel
theorem dL_law_1261 : decode cL_law 1261 = .ok (.iaload, 1) := by decide +kernel
theorem dL_law_1262 : decode cL_law 1262 = .ok (.aload_n 0, 1) := by decide +kernel
theorem dL_law_1263 : decode cL_law 1263 = .ok (.iload_n 3, 1) := by decide +kernel
theorem dL_law_1264 : decode cL_law 1264 = .ok (.iconst 3, 1) := by decide +kernel
theorem dL_law_1265 : decode cL_law 1265 = .ok (.iadd, 1) := by decide +kernel
theorem dL_law_1266 : decode cL_law 1266 = .ok (.iaload, 1) := by decide +kernel
theorem dL_law_1267 : decode cL_law 1267 = .ok (.invokevirtual 150, 3) := by decide +kernel
theorem dL_law_1270 : decode cL_law 1270 = .ok (.aload_n 2, 1) := by decide +kernel
theorem dL_law_1271 : decode cL_law 1271 = .ok (.aload_n 0, 1) := by decide +kernel
theorem dL_law_1272 : decode cL_law 1272 = .ok (.iload_n 3, 1) := by decide +kernel
theorem dL_law_1273 : decode cL_law 1273 = .ok (.iconst 1, 1) := by decide +kernel
theorem dL_law_1274 : decode cL_law 1274 = .ok (.iadd, 1) := by decide +kernel
theorem dL_law_1275 : decode cL_law 1275 = .ok (.iaload, 1) := by decide +kernel
theorem dL_law_1276 : decode cL_law 1276 = .ok (.aload_n 0, 1) := by decide +kernel
theorem dL_law_1277 : decode cL_law 1277 = .ok (.iload_n 3, 1) := by decide +kernel
theorem dL_law_1278 : decode cL_law 1278 = .ok (.iconst 2, 1) := by decide +kernel
theorem dL_law_1279 : decode cL_law 1279 = .ok (.iadd, 1) := by decide +kernel
theorem dL_law_1280 : decode cL_law 1280 = .ok (.iaload, 1) := by decide +kernel
theorem dL_law_1281 : decode cL_law 1281 = .ok (.aload_n 0, 1) := by decide +kernel
theorem dL_law_1282 : decode cL_law 1282 = .ok (.iload_n 3, 1) := by decide +kernel
theorem dL_law_1283 : decode cL_law 1283 = .ok (.iconst 3, 1) := by decide +kernel
theorem dL_law_1284 : decode cL_law 1284 = .ok (.iadd, 1) := by decide +kernel
theorem dL_law_1285 : decode cL_law 1285 = .ok (.iaload, 1) := by decide +kernel
theorem dL_law_1286 : decode cL_law 1286 = .ok (.invokevirtual 153, 3) := by decide +kernel
theorem dL_law_1289 : decode cL_law 1289 = .ok (.if_icmp .eq 391, 3) := by decide +kernel
theorem dL_law_1292 : decode cL_law 1292 = .ok (.iconst 0, 1) := by decide +kernel
theorem dL_law_1293 : decode cL_law 1293 = .ok (.ireturn, 1) := by decide +kernel
theorem dL_law_1294 : decode cL_law 1294 = .ok (.aload_n 1, 1) := by decide +kernel
theorem dL_law_1295 : decode cL_law 1295 = .ok (.aload_n 0, 1) := by decide +kernel
theorem dL_law_1296 : decode cL_law 1296 = .ok (.iload_n 3, 1) := by decide +kernel
theorem dL_law_1297 : decode cL_law 1297 = .ok (.iconst 1, 1) := by decide +kernel
theorem dL_law_1298 : decode cL_law 1298 = .ok (.iadd, 1) := by decide +kernel
theorem dL_law_1299 : decode cL_law 1299 = .ok (.iaload, 1) := by decide +kernel
theorem dL_law_1300 : decode cL_law 1300 = .ok (.aload_n 0, 1) := by decide +kernel
theorem dL_law_1301 : decode cL_law 1301 = .ok (.iload_n 3, 1) := by decide +kernel
theorem dL_law_1302 : decode cL_law 1302 = .ok (.iconst 2, 1) := by decide +kernel
theorem dL_law_1303 : decode cL_law 1303 = .ok (.iadd, 1) := by decide +kernel
theorem dL_law_1304 : decode cL_law 1304 = .ok (.iaload, 1) := by decide +kernel
theorem dL_law_1305 : decode cL_law 1305 = .ok (.aload_n 0, 1) := by decide +kernel
theorem dL_law_1306 : decode cL_law 1306 = .ok (.iload_n 3, 1) := by decide +kernel
theorem dL_law_1307 : decode cL_law 1307 = .ok (.iconst 3, 1) := by decide +kernel
theorem dL_law_1308 : decode cL_law 1308 = .ok (.iadd, 1) := by decide +kernel
theorem dL_law_1309 : decode cL_law 1309 = .ok (.iaload, 1) := by decide +kernel
theorem dL_law_1310 : decode cL_law 1310 = .ok (.invokevirtual 154, 3) := by decide +kernel
theorem dL_law_1313 : decode cL_law 1313 = .ok (.aload_n 2, 1) := by decide +kernel
theorem dL_law_1314 : decode cL_law 1314 = .ok (.aload_n 0, 1) := by decide +kernel
theorem dL_law_1315 : decode cL_law 1315 = .ok (.iload_n 3, 1) := by decide +kernel
theorem dL_law_1316 : decode cL_law 1316 = .ok (.iconst 1, 1) := by decide +kernel
theorem dL_law_1317 : decode cL_law 1317 = .ok (.iadd, 1) := by decide +kernel
theorem dL_law_1318 : decode cL_law 1318 = .ok (.iaload, 1) := by decide +kernel
theorem dL_law_1319 : decode cL_law 1319 = .ok (.aload_n 0, 1) := by decide +kernel
theorem dL_law_1320 : decode cL_law 1320 = .ok (.iload_n 3, 1) := by decide +kernel
theorem dL_law_1321 : decode cL_law 1321 = .ok (.iconst 2, 1) := by decide +kernel
theorem dL_law_1322 : decode cL_law 1322 = .ok (.iadd, 1) := by decide +kernel
theorem dL_law_1323 : decode cL_law 1323 = .ok (.iaload, 1) := by decide +kernel
theorem dL_law_1324 : decode cL_law 1324 = .ok (.aload_n 0, 1) := by decide +kernel
theorem dL_law_1325 : decode cL_law 1325 = .ok (.iload_n 3, 1) := by decide +kernel
theorem dL_law_1326 : decode cL_law 1326 = .ok (.iconst 3, 1) := by decide +kernel
theorem dL_law_1327 : decode cL_law 1327 = .ok (.iadd, 1) := by decide +kernel
theorem dL_law_1328 : decode cL_law 1328 = .ok (.iaload, 1) := by decide +kernel
theorem dL_law_1329 : decode cL_law 1329 = .ok (.invokevirtual 157, 3) := by decide +kernel
theorem dL_law_1332 : decode cL_law 1332 = .ok (.if_icmp .eq 348, 3) := by decide +kernel
theorem dL_law_1335 : decode cL_law 1335 = .ok (.iconst 0, 1) := by decide +kernel
theorem dL_law_1336 : decode cL_law 1336 = .ok (.ireturn, 1) := by decide +kernel
theorem dL_law_1337 : decode cL_law 1337 = .ok (.aload_n 1, 1) := by decide +kernel
theorem dL_law_1338 : decode cL_law 1338 = .ok (.aload_n 0, 1) := by decide +kernel
theorem dL_law_1339 : decode cL_law 1339 = .ok (.iload_n 3, 1) := by decide +kernel
theorem dL_law_1340 : decode cL_law 1340 = .ok (.iconst 1, 1) := by decide +kernel
theorem dL_law_1341 : decode cL_law 1341 = .ok (.iadd, 1) := by decide +kernel
theorem dL_law_1342 : decode cL_law 1342 = .ok (.iaload, 1) := by decide +kernel
theorem dL_law_1343 : decode cL_law 1343 = .ok (.aload_n 0, 1) := by decide +kernel
theorem dL_law_1344 : decode cL_law 1344 = .ok (.iload_n 3, 1) := by decide +kernel
theorem dL_law_1345 : decode cL_law 1345 = .ok (.iconst 2, 1) := by decide +kernel
theorem dL_law_1346 : decode cL_law 1346 = .ok (.iadd, 1) := by decide +kernel
theorem dL_law_1347 : decode cL_law 1347 = .ok (.iaload, 1) := by decide +kernel
theorem dL_law_1348 : decode cL_law 1348 = .ok (.invokevirtual 158, 3) := by decide +kernel
theorem dL_law_1351 : decode cL_law 1351 = .ok (.aload_n 2, 1) := by decide +kernel
theorem dL_law_1352 : decode cL_law 1352 = .ok (.aload_n 0, 1) := by decide +kernel
theorem dL_law_1353 : decode cL_law 1353 = .ok (.iload_n 3, 1) := by decide +kernel
theorem dL_law_1354 : decode cL_law 1354 = .ok (.iconst 1, 1) := by decide +kernel
theorem dL_law_1355 : decode cL_law 1355 = .ok (.iadd, 1) := by decide +kernel
theorem dL_law_1356 : decode cL_law 1356 = .ok (.iaload, 1) := by decide +kernel
theorem dL_law_1357 : decode cL_law 1357 = .ok (.aload_n 0, 1) := by decide +kernel
theorem dL_law_1358 : decode cL_law 1358 = .ok (.iload_n 3, 1) := by decide +kernel
theorem dL_law_1359 : decode cL_law 1359 = .ok (.iconst 2, 1) := by decide +kernel
theorem dL_law_1360 : decode cL_law 1360 = .ok (.iadd, 1) := by decide +kernel
theorem dL_law_1361 : decode cL_law 1361 = .ok (.iaload, 1) := by decide +kernel
theorem dL_law_1362 : decode cL_law 1362 = .ok (.invokevirtual 161, 3) := by decide +kernel
theorem dL_law_1365 : decode cL_law 1365 = .ok (.if_icmp .eq 315, 3) := by decide +kernel
theorem dL_law_1368 : decode cL_law 1368 = .ok (.iconst 0, 1) := by decide +kernel
theorem dL_law_1369 : decode cL_law 1369 = .ok (.ireturn, 1) := by decide +kernel
theorem dL_law_1370 : decode cL_law 1370 = .ok (.aload_n 1, 1) := by decide +kernel
theorem dL_law_1371 : decode cL_law 1371 = .ok (.aload_n 0, 1) := by decide +kernel
theorem dL_law_1372 : decode cL_law 1372 = .ok (.iload_n 3, 1) := by decide +kernel
theorem dL_law_1373 : decode cL_law 1373 = .ok (.iconst 1, 1) := by decide +kernel
theorem dL_law_1374 : decode cL_law 1374 = .ok (.iadd, 1) := by decide +kernel
theorem dL_law_1375 : decode cL_law 1375 = .ok (.iaload, 1) := by decide +kernel
theorem dL_law_1376 : decode cL_law 1376 = .ok (.aload_n 0, 1) := by decide +kernel
theorem dL_law_1377 : decode cL_law 1377 = .ok (.iload_n 3, 1) := by decide +kernel
theorem dL_law_1378 : decode cL_law 1378 = .ok (.iconst 2, 1) := by decide +kernel
theorem dL_law_1379 : decode cL_law 1379 = .ok (.iadd, 1) := by decide +kernel
theorem dL_law_1380 : decode cL_law 1380 = .ok (.iaload, 1) := by decide +kernel
theorem dL_law_1381 : decode cL_law 1381 = .ok (.aload_n 0, 1) := by decide +kernel
theorem dL_law_1382 : decode cL_law 1382 = .ok (.iload_n 3, 1) := by decide +kernel
theorem dL_law_1383 : decode cL_law 1383 = .ok (.iconst 3, 1) := by decide +kernel
theorem dL_law_1384 : decode cL_law 1384 = .ok (.iadd, 1) := by decide +kernel
theorem dL_law_1385 : decode cL_law 1385 = .ok (.iaload, 1) := by decide +kernel
theorem dL_law_1386 : decode cL_law 1386 = .ok (.aload_n 0, 1) := by decide +kernel
theorem dL_law_1387 : decode cL_law 1387 = .ok (.iload_n 3, 1) := by decide +kernel
theorem dL_law_1388 : decode cL_law 1388 = .ok (.iconst 4, 1) := by decide +kernel
theorem dL_law_1389 : decode cL_law 1389 = .ok (.iadd, 1) := by decide +kernel
theorem dL_law_1390 : decode cL_law 1390 = .ok (.iaload, 1) := by decide +kernel
theorem dL_law_1391 : decode cL_law 1391 = .ok (.aload_n 0, 1) := by decide +kernel
theorem dL_law_1392 : decode cL_law 1392 = .ok (.iload_n 3, 1) := by decide +kernel
theorem dL_law_1393 : decode cL_law 1393 = .ok (.iconst 5, 1) := by decide +kernel
theorem dL_law_1394 : decode cL_law 1394 = .ok (.iadd, 1) := by decide +kernel
theorem dL_law_1395 : decode cL_law 1395 = .ok (.iaload, 1) := by decide +kernel
theorem dL_law_1396 : decode cL_law 1396 = .ok (.invokevirtual 162, 3) := by decide +kernel
theorem dL_law_1399 : decode cL_law 1399 = .ok (.aload_n 2, 1) := by decide +kernel
theorem dL_law_1400 : decode cL_law 1400 = .ok (.aload_n 0, 1) := by decide +kernel
theorem dL_law_1401 : decode cL_law 1401 = .ok (.iload_n 3, 1) := by decide +kernel
theorem dL_law_1402 : decode cL_law 1402 = .ok (.iconst 1, 1) := by decide +kernel
theorem dL_law_1403 : decode cL_law 1403 = .ok (.iadd, 1) := by decide +kernel
theorem dL_law_1404 : decode cL_law 1404 = .ok (.iaload, 1) := by decide +kernel
theorem dL_law_1405 : decode cL_law 1405 = .ok (.aload_n 0, 1) := by decide +kernel
theorem dL_law_1406 : decode cL_law 1406 = .ok (.iload_n 3, 1) := by decide +kernel
theorem dL_law_1407 : decode cL_law 1407 = .ok (.iconst 2, 1) := by decide +kernel
theorem dL_law_1408 : decode cL_law 1408 = .ok (.iadd, 1) := by decide +kernel
theorem dL_law_1409 : decode cL_law 1409 = .ok (.iaload, 1) := by decide +kernel
theorem dL_law_1410 : decode cL_law 1410 = .ok (.aload_n 0, 1) := by decide +kernel
theorem dL_law_1411 : decode cL_law 1411 = .ok (.iload_n 3, 1) := by decide +kernel
theorem dL_law_1412 : decode cL_law 1412 = .ok (.iconst 3, 1) := by decide +kernel
theorem dL_law_1413 : decode cL_law 1413 = .ok (.iadd, 1) := by decide +kernel
theorem dL_law_1414 : decode cL_law 1414 = .ok (.iaload, 1) := by decide +kernel
theorem dL_law_1415 : decode cL_law 1415 = .ok (.aload_n 0, 1) := by decide +kernel
theorem dL_law_1416 : decode cL_law 1416 = .ok (.iload_n 3, 1) := by decide +kernel
theorem dL_law_1417 : decode cL_law 1417 = .ok (.iconst 4, 1) := by decide +kernel
theorem dL_law_1418 : decode cL_law 1418 = .ok (.iadd, 1) := by decide +kernel
theorem dL_law_1419 : decode cL_law 1419 = .ok (.iaload, 1) := by decide +kernel
theorem dL_law_1420 : decode cL_law 1420 = .ok (.aload_n 0, 1) := by decide +kernel
theorem dL_law_1421 : decode cL_law 1421 = .ok (.iload_n 3, 1) := by decide +kernel
theorem dL_law_1422 : decode cL_law 1422 = .ok (.iconst 5, 1) := by decide +kernel
theorem dL_law_1423 : decode cL_law 1423 = .ok (.iadd, 1) := by decide +kernel
theorem dL_law_1424 : decode cL_law 1424 = .ok (.iaload, 1) := by decide +kernel
theorem dL_law_1425 : decode cL_law 1425 = .ok (.invokevirtual 166, 3) := by decide +kernel
theorem dL_law_1428 : decode cL_law 1428 = .ok (.if_icmp .eq 252, 3) := by decide +kernel
theorem dL_law_1431 : decode cL_law 1431 = .ok (.iconst 0, 1) := by decide +kernel
theorem dL_law_1432 : decode cL_law 1432 = .ok (.ireturn, 1) := by decide +kernel
theorem dL_law_1433 : decode cL_law 1433 = .ok (.aload_n 1, 1) := by decide +kernel
theorem dL_law_1434 : decode cL_law 1434 = .ok (.aload_n 0, 1) := by decide +kernel
theorem dL_law_1435 : decode cL_law 1435 = .ok (.iload_n 3, 1) := by decide +kernel
theorem dL_law_1436 : decode cL_law 1436 = .ok (.iconst 1, 1) := by decide +kernel
theorem dL_law_1437 : decode cL_law 1437 = .ok (.iadd, 1) := by decide +kernel
theorem dL_law_1438 : decode cL_law 1438 = .ok (.iaload, 1) := by decide +kernel
theorem dL_law_1439 : decode cL_law 1439 = .ok (.aload_n 0, 1) := by decide +kernel
theorem dL_law_1440 : decode cL_law 1440 = .ok (.iload_n 3, 1) := by decide +kernel
theorem dL_law_1441 : decode cL_law 1441 = .ok (.iconst 2, 1) := by decide +kernel
theorem dL_law_1442 : decode cL_law 1442 = .ok (.iadd, 1) := by decide +kernel
theorem dL_law_1443 : decode cL_law 1443 = .ok (.iaload, 1) := by decide +kernel
theorem dL_law_1444 : decode cL_law 1444 = .ok (.aload_n 0, 1) := by decide +kernel
theorem dL_law_1445 : decode cL_law 1445 = .ok (.iload_n 3, 1) := by decide +kernel
theorem dL_law_1446 : decode cL_law 1446 = .ok (.iconst 3, 1) := by decide +kernel
theorem dL_law_1447 : decode cL_law 1447 = .ok (.iadd, 1) := by decide +kernel
theorem dL_law_1448 : decode cL_law 1448 = .ok (.iaload, 1) := by decide +kernel
theorem dL_law_1449 : decode cL_law 1449 = .ok (.invokevirtual 167, 3) := by decide +kernel
theorem dL_law_1452 : decode cL_law 1452 = .ok (.aload_n 2, 1) := by decide +kernel
theorem dL_law_1453 : decode cL_law 1453 = .ok (.aload_n 0, 1) := by decide +kernel
theorem dL_law_1454 : decode cL_law 1454 = .ok (.iload_n 3, 1) := by decide +kernel
theorem dL_law_1455 : decode cL_law 1455 = .ok (.iconst 1, 1) := by decide +kernel
theorem dL_law_1456 : decode cL_law 1456 = .ok (.iadd, 1) := by decide +kernel
theorem dL_law_1457 : decode cL_law 1457 = .ok (.iaload, 1) := by decide +kernel
theorem dL_law_1458 : decode cL_law 1458 = .ok (.aload_n 0, 1) := by decide +kernel
theorem dL_law_1459 : decode cL_law 1459 = .ok (.iload_n 3, 1) := by decide +kernel
theorem dL_law_1460 : decode cL_law 1460 = .ok (.iconst 2, 1) := by decide +kernel
theorem dL_law_1461 : decode cL_law 1461 = .ok (.iadd, 1) := by decide +kernel
theorem dL_law_1462 : decode cL_law 1462 = .ok (.iaload, 1) := by decide +kernel
theorem dL_law_1463 : decode cL_law 1463 = .ok (.aload_n 0, 1) := by decide +kernel
theorem dL_law_1464 : decode cL_law 1464 = .ok (.iload_n 3, 1) := by decide +kernel
theorem dL_law_1465 : decode cL_law 1465 = .ok (.iconst 3, 1) := by decide +kernel
theorem dL_law_1466 : decode cL_law 1466 = .ok (.iadd, 1) := by decide +kernel
theorem dL_law_1467 : decode cL_law 1467 = .ok (.iaload, 1) := by decide +kernel
theorem dL_law_1468 : decode cL_law 1468 = .ok (.invokevirtual 170, 3) := by decide +kernel
theorem dL_law_1471 : decode cL_law 1471 = .ok (.if_icmp .eq 209, 3) := by decide +kernel
theorem dL_law_1474 : decode cL_law 1474 = .ok (.iconst 0, 1) := by decide +kernel
theorem dL_law_1475 : decode cL_law 1475 = .ok (.ireturn, 1) := by decide +kernel
theorem dL_law_1476 : decode cL_law 1476 = .ok (.aload_n 1, 1) := by decide +kernel
theorem dL_law_1477 : decode cL_law 1477 = .ok (.aload_n 0, 1) := by decide +kernel
theorem dL_law_1478 : decode cL_law 1478 = .ok (.iload_n 3, 1) := by decide +kernel
theorem dL_law_1479 : decode cL_law 1479 = .ok (.iconst 1, 1) := by decide +kernel
theorem dL_law_1480 : decode cL_law 1480 = .ok (.iadd, 1) := by decide +kernel
theorem dL_law_1481 : decode cL_law 1481 = .ok (.iaload, 1) := by decide +kernel
theorem dL_law_1482 : decode cL_law 1482 = .ok (.aload_n 0, 1) := by decide +kernel
theorem dL_law_1483 : decode cL_law 1483 = .ok (.iload_n 3, 1) := by decide +kernel
theorem dL_law_1484 : decode cL_law 1484 = .ok (.iconst 2, 1) := by decide +kernel
theorem dL_law_1485 : decode cL_law 1485 = .ok (.iadd, 1) := by decide +kernel
theorem dL_law_1486 : decode cL_law 1486 = .ok (.iaload, 1) := by decide +kernel
theorem dL_law_1487 : decode cL_law 1487 = .ok (.invokevirtual 171, 3) := by decide +kernel
theorem dL_law_1490 : decode cL_law 1490 = .ok (.aload_n 2, 1) := by decide +kernel
theorem dL_law_1491 : decode cL_law 1491 = .ok (.aload_n 0, 1) := by decide +kernel
theorem dL_law_1492 : decode cL_law 1492 = .ok (.iload_n 3, 1) := by decide +kernel
theorem dL_law_1493 : decode cL_law 1493 = .ok (.iconst 1, 1) := by decide +kernel
theorem dL_law_1494 : decode cL_law 1494 = .ok (.iadd, 1) := by decide +kernel
theorem dL_law_1495 : decode cL_law 1495 = .ok (.iaload, 1) := by decide +kernel
theorem dL_law_1496 : decode cL_law 1496 = .ok (.aload_n 0, 1) := by decide +kernel
theorem dL_law_1497 : decode cL_law 1497 = .ok (.iload_n 3, 1) := by decide +kernel
theorem dL_law_1498 : decode cL_law 1498 = .ok (.iconst 2, 1) := by decide +kernel
theorem dL_law_1499 : decode cL_law 1499 = .ok (.iadd, 1) := by decide +kernel
theorem dL_law_1500 : decode cL_law 1500 = .ok (.iaload, 1) := by decide +kernel
theorem dL_law_1501 : decode cL_law 1501 = .ok (.invokevirtual 174, 3) := by decide +kernel
theorem dL_law_1504 : decode cL_law 1504 = .ok (.if_icmp .eq 176, 3) := by decide +kernel
theorem dL_law_1507 : decode cL_law 1507 = .ok (.iconst 0, 1) := by decide +kernel
theorem dL_law_1508 : decode cL_law 1508 = .ok (.ireturn, 1) := by decide +kernel
theorem dL_law_1509 : decode cL_law 1509 = .ok (.aload_n 1, 1) := by decide +kernel
theorem dL_law_1510 : decode cL_law 1510 = .ok (.aload_n 0, 1) := by decide +kernel
theorem dL_law_1511 : decode cL_law 1511 = .ok (.iload_n 3, 1) := by decide +kernel
theorem dL_law_1512 : decode cL_law 1512 = .ok (.iconst 1, 1) := by decide +kernel
theorem dL_law_1513 : decode cL_law 1513 = .ok (.iadd, 1) := by decide +kernel
theorem dL_law_1514 : decode cL_law 1514 = .ok (.iaload, 1) := by decide +kernel
theorem dL_law_1515 : decode cL_law 1515 = .ok (.aload_n 0, 1) := by decide +kernel
theorem dL_law_1516 : decode cL_law 1516 = .ok (.iload_n 3, 1) := by decide +kernel
theorem dL_law_1517 : decode cL_law 1517 = .ok (.iconst 2, 1) := by decide +kernel
theorem dL_law_1518 : decode cL_law 1518 = .ok (.iadd, 1) := by decide +kernel
theorem dL_law_1519 : decode cL_law 1519 = .ok (.iaload, 1) := by decide +kernel
theorem dL_law_1520 : decode cL_law 1520 = .ok (.invokevirtual 175, 3) := by decide +kernel
theorem dL_law_1523 : decode cL_law 1523 = .ok (.aload_n 2, 1) := by decide +kernel
theorem dL_law_1524 : decode cL_law 1524 = .ok (.aload_n 0, 1) := by decide +kernel
theorem dL_law_1525 : decode cL_law 1525 = .ok (.iload_n 3, 1) := by decide +kernel
theorem dL_law_1526 : decode cL_law 1526 = .ok (.iconst 1, 1) := by decide +kernel
theorem dL_law_1527 : decode cL_law 1527 = .ok (.iadd, 1) := by decide +kernel
theorem dL_law_1528 : decode cL_law 1528 = .ok (.iaload, 1) := by decide +kernel
theorem dL_law_1529 : decode cL_law 1529 = .ok (.aload_n 0, 1) := by decide +kernel
theorem dL_law_1530 : decode cL_law 1530 = .ok (.iload_n 3, 1) := by decide +kernel
theorem dL_law_1531 : decode cL_law 1531 = .ok (.iconst 2, 1) := by decide +kernel
theorem dL_law_1532 : decode cL_law 1532 = .ok (.iadd, 1) := by decide +kernel
theorem dL_law_1533 : decode cL_law 1533 = .ok (.iaload, 1) := by decide +kernel
theorem dL_law_1534 : decode cL_law 1534 = .ok (.invokevirtual 178, 3) := by decide +kernel
theorem dL_law_1537 : decode cL_law 1537 = .ok (.if_icmp .eq 143, 3) := by decide +kernel
theorem dL_law_1540 : decode cL_law 1540 = .ok (.iconst 0, 1) := by decide +kernel
theorem dL_law_1541 : decode cL_law 1541 = .ok (.ireturn, 1) := by decide +kernel
theorem dL_law_1542 : decode cL_law 1542 = .ok (.aload_n 1, 1) := by decide +kernel
theorem dL_law_1543 : decode cL_law 1543 = .ok (.aload_n 0, 1) := by decide +kernel
theorem dL_law_1544 : decode cL_law 1544 = .ok (.iload_n 3, 1) := by decide +kernel
theorem dL_law_1545 : decode cL_law 1545 = .ok (.iconst 1, 1) := by decide +kernel
theorem dL_law_1546 : decode cL_law 1546 = .ok (.iadd, 1) := by decide +kernel
theorem dL_law_1547 : decode cL_law 1547 = .ok (.iaload, 1) := by decide +kernel
theorem dL_law_1548 : decode cL_law 1548 = .ok (.aload_n 0, 1) := by decide +kernel
theorem dL_law_1549 : decode cL_law 1549 = .ok (.iload_n 3, 1) := by decide +kernel
theorem dL_law_1550 : decode cL_law 1550 = .ok (.iconst 2, 1) := by decide +kernel
theorem dL_law_1551 : decode cL_law 1551 = .ok (.iadd, 1) := by decide +kernel
theorem dL_law_1552 : decode cL_law 1552 = .ok (.iaload, 1) := by decide +kernel
theorem dL_law_1553 : decode cL_law 1553 = .ok (.invokevirtual 179, 3) := by decide +kernel
theorem dL_law_1556 : decode cL_law 1556 = .ok (.aload_n 2, 1) := by decide +kernel
theorem dL_law_1557 : decode cL_law 1557 = .ok (.aload_n 0, 1) := by decide +kernel
theorem dL_law_1558 : decode cL_law 1558 = .ok (.iload_n 3, 1) := by decide +kernel
theorem dL_law_1559 : decode cL_law 1559 = .ok (.iconst 1, 1) := by decide +kernel
theorem dL_law_1560 : decode cL_law 1560 = .ok (.iadd, 1) := by decide +kernel
theorem dL_law_1561 : decode cL_law 1561 = .ok (.iaload, 1) := by decide +kernel
theorem dL_law_1562 : decode cL_law 1562 = .ok (.aload_n 0, 1) := by decide +kernel
theorem dL_law_1563 : decode cL_law 1563 = .ok (.iload_n 3, 1) := by decide +kernel
theorem dL_law_1564 : decode cL_law 1564 = .ok (.iconst 2, 1) := by decide +kernel
theorem dL_law_1565 : decode cL_law 1565 = .ok (.iadd, 1) := by decide +kernel
theorem dL_law_1566 : decode cL_law 1566 = .ok (.iaload, 1) := by decide +kernel
theorem dL_law_1567 : decode cL_law 1567 = .ok (.invokevirtual 182, 3) := by decide +kernel
theorem dL_law_1570 : decode cL_law 1570 = .ok (.if_icmp .eq 110, 3) := by decide +kernel
theorem dL_law_1573 : decode cL_law 1573 = .ok (.iconst 0, 1) := by decide +kernel
theorem dL_law_1574 : decode cL_law 1574 = .ok (.ireturn, 1) := by decide +kernel
theorem dL_law_1575 : decode cL_law 1575 = .ok (.aload_n 1, 1) := by decide +kernel
theorem dL_law_1576 : decode cL_law 1576 = .ok (.aload_n 0, 1) := by decide +kernel
theorem dL_law_1577 : decode cL_law 1577 = .ok (.iload_n 3, 1) := by decide +kernel
theorem dL_law_1578 : decode cL_law 1578 = .ok (.iconst 1, 1) := by decide +kernel
theorem dL_law_1579 : decode cL_law 1579 = .ok (.iadd, 1) := by decide +kernel
theorem dL_law_1580 : decode cL_law 1580 = .ok (.iaload, 1) := by decide +kernel
theorem dL_law_1581 : decode cL_law 1581 = .ok (.invokevirtual 183, 3) := by decide +kernel
theorem dL_law_1584 : decode cL_law 1584 = .ok (.aload_n 2, 1) := by decide +kernel
theorem dL_law_1585 : decode cL_law 1585 = .ok (.aload_n 0, 1) := by decide +kernel
theorem dL_law_1586 : decode cL_law 1586 = .ok (.iload_n 3, 1) := by decide +kernel
theorem dL_law_1587 : decode cL_law 1587 = .ok (.iconst 1, 1) := by decide +kernel
theorem dL_law_1588 : decode cL_law 1588 = .ok (.iadd, 1) := by decide +kernel
theorem dL_law_1589 : decode cL_law 1589 = .ok (.iaload, 1) := by decide +kernel
theorem dL_law_1590 : decode cL_law 1590 = .ok (.invokevirtual 186, 3) := by decide +kernel
theorem dL_law_1593 : decode cL_law 1593 = .ok (.if_icmp .eq 87, 3) := by decide +kernel
theorem dL_law_1596 : decode cL_law 1596 = .ok (.iconst 0, 1) := by decide +kernel
theorem dL_law_1597 : decode cL_law 1597 = .ok (.ireturn, 1) := by decide +kernel
theorem dL_law_1598 : decode cL_law 1598 = .ok (.aload_n 1, 1) := by decide +kernel
theorem dL_law_1599 : decode cL_law 1599 = .ok (.aload_n 0, 1) := by decide +kernel
theorem dL_law_1600 : decode cL_law 1600 = .ok (.iload_n 3, 1) := by decide +kernel
theorem dL_law_1601 : decode cL_law 1601 = .ok (.iconst 1, 1) := by decide +kernel
theorem dL_law_1602 : decode cL_law 1602 = .ok (.iadd, 1) := by decide +kernel
theorem dL_law_1603 : decode cL_law 1603 = .ok (.iaload, 1) := by decide +kernel
theorem dL_law_1604 : decode cL_law 1604 = .ok (.aload_n 0, 1) := by decide +kernel
theorem dL_law_1605 : decode cL_law 1605 = .ok (.iload_n 3, 1) := by decide +kernel
theorem dL_law_1606 : decode cL_law 1606 = .ok (.iconst 2, 1) := by decide +kernel
theorem dL_law_1607 : decode cL_law 1607 = .ok (.iadd, 1) := by decide +kernel
theorem dL_law_1608 : decode cL_law 1608 = .ok (.iaload, 1) := by decide +kernel
theorem dL_law_1609 : decode cL_law 1609 = .ok (.invokevirtual 187, 3) := by decide +kernel
theorem dL_law_1612 : decode cL_law 1612 = .ok (.aload_n 2, 1) := by decide +kernel
theorem dL_law_1613 : decode cL_law 1613 = .ok (.aload_n 0, 1) := by decide +kernel
theorem dL_law_1614 : decode cL_law 1614 = .ok (.iload_n 3, 1) := by decide +kernel
theorem dL_law_1615 : decode cL_law 1615 = .ok (.iconst 1, 1) := by decide +kernel
theorem dL_law_1616 : decode cL_law 1616 = .ok (.iadd, 1) := by decide +kernel
theorem dL_law_1617 : decode cL_law 1617 = .ok (.iaload, 1) := by decide +kernel
theorem dL_law_1618 : decode cL_law 1618 = .ok (.aload_n 0, 1) := by decide +kernel
theorem dL_law_1619 : decode cL_law 1619 = .ok (.iload_n 3, 1) := by decide +kernel
theorem dL_law_1620 : decode cL_law 1620 = .ok (.iconst 2, 1) := by decide +kernel
theorem dL_law_1621 : decode cL_law 1621 = .ok (.iadd, 1) := by decide +kernel
theorem dL_law_1622 : decode cL_law 1622 = .ok (.iaload, 1) := by decide +kernel
theorem dL_law_1623 : decode cL_law 1623 = .ok (.invokevirtual 190, 3) := by decide +kernel
theorem dL_law_1626 : decode cL_law 1626 = .ok (.if_icmp .eq 54, 3) := by decide +kernel
theorem dL_law_1629 : decode cL_law 1629 = .ok (.iconst 0, 1) := by decide +kernel
theorem dL_law_1630 : decode cL_law 1630 = .ok (.ireturn, 1) := by decide +kernel
theorem dL_law_1631 : decode cL_law 1631 = .ok (.aload_n 1, 1) := by decide +kernel
theorem dL_law_1632 : decode cL_law 1632 = .ok (.invokevirtual 191, 3) := by decide +kernel
theorem dL_law_1635 : decode cL_law 1635 = .ok (.aload_n 2, 1) := by decide +kernel
theorem dL_law_1636 : decode cL_law 1636 = .ok (.invokevirtual 194, 3) := by decide +kernel
theorem dL_law_1639 : decode cL_law 1639 = .ok (.if_icmp .eq 41, 3) := by decide +kernel
theorem dL_law_1642 : decode cL_law 1642 = .ok (.iconst 0, 1) := by decide +kernel
theorem dL_law_1643 : decode cL_law 1643 = .ok (.ireturn, 1) := by decide +kernel
theorem dL_law_1644 : decode cL_law 1644 = .ok (.aload_n 1, 1) := by decide +kernel
theorem dL_law_1645 : decode cL_law 1645 = .ok (.invokevirtual 195, 3) := by decide +kernel
theorem dL_law_1648 : decode cL_law 1648 = .ok (.aload_n 2, 1) := by decide +kernel
theorem dL_law_1649 : decode cL_law 1649 = .ok (.invokevirtual 198, 3) := by decide +kernel
theorem dL_law_1652 : decode cL_law 1652 = .ok (.if_icmp .eq 28, 3) := by decide +kernel
theorem dL_law_1655 : decode cL_law 1655 = .ok (.iconst 0, 1) := by decide +kernel
theorem dL_law_1656 : decode cL_law 1656 = .ok (.ireturn, 1) := by decide +kernel
theorem dL_law_1657 : decode cL_law 1657 = .ok (.aload_n 1, 1) := by decide +kernel
theorem dL_law_1658 : decode cL_law 1658 = .ok (.aload_n 0, 1) := by decide +kernel
theorem dL_law_1659 : decode cL_law 1659 = .ok (.iload_n 3, 1) := by decide +kernel
theorem dL_law_1660 : decode cL_law 1660 = .ok (.iconst 1, 1) := by decide +kernel
theorem dL_law_1661 : decode cL_law 1661 = .ok (.iadd, 1) := by decide +kernel
theorem dL_law_1662 : decode cL_law 1662 = .ok (.iaload, 1) := by decide +kernel
theorem dL_law_1663 : decode cL_law 1663 = .ok (.invokevirtual 199, 3) := by decide +kernel
theorem dL_law_1666 : decode cL_law 1666 = .ok (.aload_n 2, 1) := by decide +kernel
theorem dL_law_1667 : decode cL_law 1667 = .ok (.aload_n 0, 1) := by decide +kernel
theorem dL_law_1668 : decode cL_law 1668 = .ok (.iload_n 3, 1) := by decide +kernel
theorem dL_law_1669 : decode cL_law 1669 = .ok (.iconst 1, 1) := by decide +kernel
theorem dL_law_1670 : decode cL_law 1670 = .ok (.iadd, 1) := by decide +kernel
theorem dL_law_1671 : decode cL_law 1671 = .ok (.iaload, 1) := by decide +kernel
theorem dL_law_1672 : decode cL_law 1672 = .ok (.invokevirtual 202, 3) := by decide +kernel
theorem dL_law_1675 : decode cL_law 1675 = .ok (.if_icmp .eq 5, 3) := by decide +kernel
theorem dL_law_1678 : decode cL_law 1678 = .ok (.iconst 0, 1) := by decide +kernel
theorem dL_law_1679 : decode cL_law 1679 = .ok (.ireturn, 1) := by decide +kernel
theorem dL_law_1680 : decode cL_law 1680 = .ok (.iinc 3 6, 3) := by decide +kernel
theorem dL_law_1683 : decode cL_law 1683 = .ok (.goto (-1665), 3) := by decide +kernel
theorem dL_law_1686 : decode cL_law 1686 = .ok (.iconst 1, 1) := by decide +kernel
theorem dL_law_1687 : decode cL_law 1687 = .ok (.ireturn, 1) := by decide +kernel
