theorem dX9_guess_122 : decode cX9_guess 122 = .ok (.iload 4, 2) := by decide +kernel
theorem dX9_guess_124 : decode cX9_guess 124 = .ok (.ifCond .eq 16, 3) := by decide +kernel
theorem dX9_guess_127 : decode cX9_guess 127 = .ok (.aload_n 0, 1) := by decide +kernel
theorem dX9_guess_128 : decode cX9_guess 128 = .ok (.getfield 7, 3) := by decide +kernel
theorem dX9_guess_131 : decode cX9_guess 131 = .ok (.iload_n 3, 1) := by decide +kernel
theorem dX9_guess_132 : decode cX9_guess 132 = .ok (.iconst 5, 1) := by decide +kernel
theorem dX9_guess_133 : decode cX9_guess 133 = .ok (.invokestatic 51, 3) := by decide +kernel
theorem dX9_guess_136 : decode cX9_guess 136 = .ok (.iaload, 1) := by decide +kernel
theorem dX9_guess_137 : decode cX9_guess 137 = .ok (.goto 4, 3) := by decide +kernel
theorem dX9_guess_140 : decode cX9_guess 140 = .ok (.iload_n 3, 1) := by decide +kernel
theorem dX9_guess_141 : decode cX9_guess 141 = .ok (.invokevirtual 91, 3) := by decide +kernel
theorem dX9_guess_144 : decode cX9_guess 144 = .ok (.iload_n 2, 1) := by decide +kernel
theorem dX9_guess_145 : decode cX9_guess 145 = .ok (.invokestatic 82, 3) := by decide +kernel
theorem dX9_guess_148 : decode cX9_guess 148 = .ok (.ireturn, 1) := by decide +kernel
theorem dX9_tell_0 : decode cX9_tell 0 = .ok (.aload_n 0, 1) := by decide +kernel
theorem dX9_tell_1 : decode cX9_tell 1 = .ok (.iload_n 1, 1) := by decide +kernel
theorem dX9_tell_2 : decode cX9_tell 2 = .ok (.invokevirtual 36, 3) := by decide +kernel
theorem dX9_tell_5 : decode cX9_tell 5 = .ok (.ifCond .ne 5, 3) := by decide +kernel
theorem dX9_tell_8 : decode cX9_tell 8 = .ok (.iconst (-1), 1) := by decide +kernel
theorem dX9_tell_9 : decode cX9_tell 9 = .ok (.ireturn, 1) := by decide +kernel
theorem dX9_tell_10 : decode cX9_tell 10 = .ok (.aload_n 0, 1) := by decide +kernel
theorem dX9_tell_11 : decode cX9_tell 11 = .ok (.invokevirtual 44, 3) := by decide +kernel
theorem dX9_tell_14 : decode cX9_tell 14 = .ok (.ifCond .ne 6, 3) := by decide +kernel
theorem dX9_tell_17 : decode cX9_tell 17 = .ok (.bipush (-2), 2) := by decide +kernel
theorem dX9_tell_19 : decode cX9_tell 19 = .ok (.ireturn, 1) := by decide +kernel
theorem dX9_tell_20 : decode cX9_tell 20 = .ok (.aload_n 0, 1) := by decide +kernel
theorem dX9_tell_21 : decode cX9_tell 21 = .ok (.invokevirtual 48, 3) := by decide +kernel
theorem dX9_tell_24 : decode cX9_tell 24 = .ok (.iload_n 1, 1) := by decide +kernel
theorem dX9_tell_25 : decode cX9_tell 25 = .ok (.aload_n 0, 1) := by decide +kernel
theorem dX9_tell_26 : decode cX9_tell 26 = .ok (.getfield 7, 3) := by decide +kernel
theorem dX9_tell_29 : decode cX9_tell 29 = .ok (.bipush 13, 2) := by decide +kernel
theorem dX9_tell_31 : decode cX9_tell 31 = .ok (.iaload, 1) := by decide +kernel
theorem dX9_tell_32 : decode cX9_tell 32 = .ok (.if_icmp .ne 7, 3) := by decide +kernel
theorem dX9_tell_35 : decode cX9_tell 35 = .ok (.iconst 1, 1) := by decide +kernel
theorem dX9_tell_36 : decode cX9_tell 36 = .ok (.goto 4, 3) := by decide +kernel
theorem dX9_tell_39 : decode cX9_tell 39 = .ok (.iconst 0, 1) := by decide +kernel
theorem dX9_tell_40 : decode cX9_tell 40 = .ok (.istore_n 2, 1) := by decide +kernel
theorem dX9_tell_41 : decode cX9_tell 41 = .ok (.iload_n 2, 1) := by decide +kernel
theorem dX9_tell_42 : decode cX9_tell 42 = .ok (.ifCond .eq 16, 3) := by decide +kernel
theorem dX9_tell_45 : decode cX9_tell 45 = .ok (.aload_n 0, 1) := by decide +kernel
theorem dX9_tell_46 : decode cX9_tell 46 = .ok (.aload_n 0, 1) := by decide +kernel
theorem dX9_tell_47 : decode cX9_tell 47 = .ok (.getfield 7, 3) := by decide +kernel
theorem dX9_tell_50 : decode cX9_tell 50 = .ok (.iconst 3, 1) := by decide +kernel
theorem dX9_tell_51 : decode cX9_tell 51 = .ok (.iaload, 1) := by decide +kernel
theorem dX9_tell_52 : decode cX9_tell 52 = .ok (.invokevirtual 78, 3) := by decide +kernel
theorem dX9_tell_55 : decode cX9_tell 55 = .ok (.goto 7, 3) := by decide +kernel
theorem dX9_tell_58 : decode cX9_tell 58 = .ok (.aload_n 0, 1) := by decide +kernel
theorem dX9_tell_59 : decode cX9_tell 59 = .ok (.invokevirtual 88, 3) := by decide +kernel
theorem dX9_tell_62 : decode cX9_tell 62 = .ok (.iload_n 2, 1) := by decide +kernel
theorem dX9_tell_63 : decode cX9_tell 63 = .ok (.ifCond .eq 7, 3) := by decide +kernel
theorem dX9_tell_66 : decode cX9_tell 66 = .ok (.iconst 1, 1) := by decide +kernel
theorem dX9_tell_67 : decode cX9_tell 67 = .ok (.goto 4, 3) := by decide +kernel
theorem dX9_tell_70 : decode cX9_tell 70 = .ok (.iconst 0, 1) := by decide +kernel
theorem dX9_tell_71 : decode cX9_tell 71 = .ok (.ireturn, 1) := by decide +kernel
theorem dX9_whisper_0 : decode cX9_whisper 0 = .ok (.aload_n 0, 1) := by decide +kernel
theorem dX9_whisper_1 : decode cX9_whisper 1 = .ok (.iload_n 1, 1) := by decide +kernel
theorem dX9_whisper_2 : decode cX9_whisper 2 = .ok (.invokevirtual 54, 3) := by decide +kernel
theorem dX9_whisper_5 : decode cX9_whisper 5 = .ok (.ifCond .eq 21, 3) := by decide +kernel
theorem dX9_whisper_8 : decode cX9_whisper 8 = .ok (.aload_n 0, 1) := by decide +kernel
theorem dX9_whisper_9 : decode cX9_whisper 9 = .ok (.iload_n 2, 1) := by decide +kernel
theorem dX9_whisper_10 : decode cX9_whisper 10 = .ok (.invokevirtual 54, 3) := by decide +kernel
theorem dX9_whisper_13 : decode cX9_whisper 13 = .ok (.ifCond .eq 13, 3) := by decide +kernel
theorem dX9_whisper_16 : decode cX9_whisper 16 = .ok (.iload_n 3, 1) := by decide +kernel
theorem dX9_whisper_17 : decode cX9_whisper 17 = .ok (.iconst 0, 1) := by decide +kernel
theorem dX9_whisper_18 : decode cX9_whisper 18 = .ok (.bipush 25, 2) := by decide +kernel
theorem dX9_whisper_20 : decode cX9_whisper 20 = .ok (.invokestatic 40, 3) := by decide +kernel
theorem dX9_whisper_23 : decode cX9_whisper 23 = .ok (.ifCond .ne 5, 3) := by decide +kernel
theorem dX9_whisper_26 : decode cX9_whisper 26 = .ok (.iconst (-1), 1) := by decide +kernel
theorem dX9_whisper_27 : decode cX9_whisper 27 = .ok (.ireturn, 1) := by decide +kernel
theorem dX9_whisper_28 : decode cX9_whisper 28 = .ok (.iload_n 1, 1) := by decide +kernel
theorem dX9_whisper_29 : decode cX9_whisper 29 = .ok (.iload_n 2, 1) := by decide +kernel
theorem dX9_whisper_30 : decode cX9_whisper 30 = .ok (.isub, 1) := by decide +kernel
theorem dX9_whisper_31 : decode cX9_whisper 31 = .ok (.iconst 1, 1) := by decide +kernel
theorem dX9_whisper_32 : decode cX9_whisper 32 = .ok (.if_icmp .eq 10, 3) := by decide +kernel
theorem dX9_whisper_35 : decode cX9_whisper 35 = .ok (.iload_n 2, 1) := by decide +kernel
theorem dX9_whisper_36 : decode cX9_whisper 36 = .ok (.iload_n 1, 1) := by decide +kernel
theorem dX9_whisper_37 : decode cX9_whisper 37 = .ok (.isub, 1) := by decide +kernel
theorem dX9_whisper_38 : decode cX9_whisper 38 = .ok (.iconst 1, 1) := by decide +kernel
theorem dX9_whisper_39 : decode cX9_whisper 39 = .ok (.if_icmp .ne 7, 3) := by decide +kernel
theorem dX9_whisper_42 : decode cX9_whisper 42 = .ok (.iconst 1, 1) := by decide +kernel
theorem dX9_whisper_43 : decode cX9_whisper 43 = .ok (.goto 4, 3) := by decide +kernel
theorem dX9_whisper_46 : decode cX9_whisper 46 = .ok (.iconst 0, 1) := by decide +kernel
theorem dX9_whisper_47 : decode cX9_whisper 47 = .ok (.istore 4, 2) := by decide +kernel
theorem dX9_whisper_49 : decode cX9_whisper 49 = .ok (.aload_n 0, 1) := by decide +kernel
theorem dX9_whisper_50 : decode cX9_whisper 50 = .ok (.invokevirtual 44, 3) := by decide +kernel
theorem dX9_whisper_53 : decode cX9_whisper 53 = .ok (.ifCond .eq 23, 3) := by decide +kernel
theorem dX9_whisper_56 : decode cX9_whisper 56 = .ok (.iload 4, 2) := by decide +kernel
theorem dX9_whisper_58 : decode cX9_whisper 58 = .ok (.ifCond .eq 18, 3) := by decide +kernel
theorem dX9_whisper_61 : decode cX9_whisper 61 = .ok (.aload_n 0, 1) := by decide +kernel
theorem dX9_whisper_62 : decode cX9_whisper 62 = .ok (.getfield 7, 3) := by decide +kernel
theorem dX9_whisper_65 : decode cX9_whisper 65 = .ok (.bipush 6, 2) := by decide +kernel
theorem dX9_whisper_67 : decode cX9_whisper 67 = .ok (.iaload, 1) := by decide +kernel
theorem dX9_whisper_68 : decode cX9_whisper 68 = .ok (.iload_n 3, 1) := by decide +kernel
theorem dX9_whisper_69 : decode cX9_whisper 69 = .ok (.ishr, 1) := by decide +kernel
theorem dX9_whisper_70 : decode cX9_whisper 70 = .ok (.iconst 1, 1) := by decide +kernel
theorem dX9_whisper_71 : decode cX9_whisper 71 = .ok (.iand, 1) := by decide +kernel
theorem dX9_whisper_72 : decode cX9_whisper 72 = .ok (.iconst 1, 1) := by decide +kernel
theorem dX9_whisper_73 : decode cX9_whisper 73 = .ok (.if_icmp .ne 6, 3) := by decide +kernel
theorem dX9_whisper_76 : decode cX9_whisper 76 = .ok (.bipush (-2), 2) := by decide +kernel
theorem dX9_whisper_78 : decode cX9_whisper 78 = .ok (.ireturn, 1) := by decide +kernel
theorem dX9_whisper_79 : decode cX9_whisper 79 = .ok (.aload_n 0, 1) := by decide +kernel
theorem dX9_whisper_80 : decode cX9_whisper 80 = .ok (.invokevirtual 48, 3) := by decide +kernel
theorem dX9_whisper_83 : decode cX9_whisper 83 = .ok (.aload_n 0, 1) := by decide +kernel
theorem dX9_whisper_84 : decode cX9_whisper 84 = .ok (.getfield 7, 3) := by decide +kernel
theorem dX9_whisper_87 : decode cX9_whisper 87 = .ok (.iload_n 2, 1) := by decide +kernel
theorem dX9_whisper_88 : decode cX9_whisper 88 = .ok (.iconst 4, 1) := by decide +kernel
theorem dX9_whisper_89 : decode cX9_whisper 89 = .ok (.invokestatic 51, 3) := by decide +kernel
theorem dX9_whisper_92 : decode cX9_whisper 92 = .ok (.iaload, 1) := by decide +kernel
theorem dX9_whisper_93 : decode cX9_whisper 93 = .ok (.istore 5, 2) := by decide +kernel
theorem dX9_whisper_95 : decode cX9_whisper 95 = .ok (.aload_n 0, 1) := by decide +kernel
theorem dX9_whisper_96 : decode cX9_whisper 96 = .ok (.getfield 7, 3) := by decide +kernel
theorem dX9_whisper_99 : decode cX9_whisper 99 = .ok (.iload_n 2, 1) := by decide +kernel
theorem dX9_whisper_100 : decode cX9_whisper 100 = .ok (.iconst 4, 1) := by decide +kernel
theorem dX9_whisper_101 : decode cX9_whisper 101 = .ok (.invokestatic 51, 3) := by decide +kernel
theorem dX9_whisper_104 : decode cX9_whisper 104 = .ok (.iload_n 3, 1) := by decide +kernel
theorem dX9_whisper_105 : decode cX9_whisper 105 = .ok (.iastore, 1) := by decide +kernel
theorem dX9_whisper_106 : decode cX9_whisper 106 = .ok (.aload_n 0, 1) := by decide +kernel
theorem dX9_whisper_107 : decode cX9_whisper 107 = .ok (.getfield 7, 3) := by decide +kernel
theorem dX9_whisper_110 : decode cX9_whisper 110 = .ok (.iload_n 2, 1) := by decide +kernel
theorem dX9_whisper_111 : decode cX9_whisper 111 = .ok (.iconst 5, 1) := by decide +kernel
theorem dX9_whisper_112 : decode cX9_whisper 112 = .ok (.invokestatic 51, 3) := by decide +kernel
theorem dX9_whisper_115 : decode cX9_whisper 115 = .ok (.iload_n 1, 1) := by decide +kernel
theorem dX9_whisper_116 : decode cX9_whisper 116 = .ok (.iastore, 1) := by decide +kernel
theorem dX9_whisper_117 : decode cX9_whisper 117 = .ok (.iload 5, 2) := by decide +kernel
theorem dX9_whisper_119 : decode cX9_whisper 119 = .ok (.ireturn, 1) := by decide +kernel
theorem dX9_fitsOne_0 : decode cX9_fitsOne 0 = .ok (.aload_n 0, 1) := by decide +kernel
theorem dX9_fitsOne_1 : decode cX9_fitsOne 1 = .ok (.iload_n 1, 1) := by decide +kernel
theorem dX9_fitsOne_2 : decode cX9_fitsOne 2 = .ok (.iconst 0, 1) := by decide +kernel
theorem dX9_fitsOne_3 : decode cX9_fitsOne 3 = .ok (.invokevirtual 29, 3) := by decide +kernel
theorem dX9_fitsOne_6 : decode cX9_fitsOne 6 = .ok (.aload_n 0, 1) := by decide +kernel
theorem dX9_fitsOne_7 : decode cX9_fitsOne 7 = .ok (.aload_n 0, 1) := by decide +kernel
theorem dX9_fitsOne_8 : decode cX9_fitsOne 8 = .ok (.getfield 7, 3) := by decide +kernel
theorem dX9_fitsOne_11 : decode cX9_fitsOne 11 = .ok (.bipush 13, 2) := by decide +kernel
theorem dX9_fitsOne_13 : decode cX9_fitsOne 13 = .ok (.iaload, 1) := by decide +kernel
theorem dX9_fitsOne_14 : decode cX9_fitsOne 14 = .ok (.iconst 0, 1) := by decide +kernel
theorem dX9_fitsOne_15 : decode cX9_fitsOne 15 = .ok (.invokevirtual 29, 3) := by decide +kernel
theorem dX9_fitsOne_18 : decode cX9_fitsOne 18 = .ok (.if_icmp .ne 7, 3) := by decide +kernel
theorem dX9_fitsOne_21 : decode cX9_fitsOne 21 = .ok (.iconst 1, 1) := by decide +kernel
theorem dX9_fitsOne_22 : decode cX9_fitsOne 22 = .ok (.goto 4, 3) := by decide +kernel
theorem dX9_fitsOne_25 : decode cX9_fitsOne 25 = .ok (.iconst 0, 1) := by decide +kernel
theorem dX9_fitsOne_26 : decode cX9_fitsOne 26 = .ok (.istore_n 2, 1) := by decide +kernel
theorem dX9_fitsOne_27 : decode cX9_fitsOne 27 = .ok (.iconst 0, 1) := by decide +kernel
theorem dX9_fitsOne_28 : decode cX9_fitsOne 28 = .ok (.istore_n 3, 1) := by decide +kernel
theorem dX9_fitsOne_29 : decode cX9_fitsOne 29 = .ok (.iload_n 3, 1) := by decide +kernel
theorem dX9_fitsOne_30 : decode cX9_fitsOne 30 = .ok (.aload_n 0, 1) := by decide +kernel
theorem dX9_fitsOne_31 : decode cX9_fitsOne 31 = .ok (.iload_n 1, 1) := by decide +kernel
theorem dX9_fitsOne_32 : decode cX9_fitsOne 32 = .ok (.iconst 0, 1) := by decide +kernel
theorem dX9_fitsOne_33 : decode cX9_fitsOne 33 = .ok (.invokevirtual 29, 3) := by decide +kernel
theorem dX9_fitsOne_36 : decode cX9_fitsOne 36 = .ok (.if_icmp .ge 94, 3) := by decide +kernel
theorem dX9_fitsOne_39 : decode cX9_fitsOne 39 = .ok (.iload_n 2, 1) := by decide +kernel
theorem dX9_fitsOne_40 : decode cX9_fitsOne 40 = .ok (.ifCond .eq 90, 3) := by decide +kernel
theorem dX9_fitsOne_43 : decode cX9_fitsOne 43 = .ok (.aload_n 0, 1) := by decide +kernel
theorem dX9_fitsOne_44 : decode cX9_fitsOne 44 = .ok (.getfield 7, 3) := by decide +kernel
theorem dX9_fitsOne_47 : decode cX9_fitsOne 47 = .ok (.bipush 7, 2) := by decide +kernel
theorem dX9_fitsOne_49 : decode cX9_fitsOne 49 = .ok (.iaload, 1) := by decide +kernel
theorem dX9_fitsOne_50 : decode cX9_fitsOne 50 = .ok (.iload_n 3, 1) := by decide +kernel
theorem dX9_fitsOne_51 : decode cX9_fitsOne 51 = .ok (.ishr, 1) := by decide +kernel
theorem dX9_fitsOne_52 : decode cX9_fitsOne 52 = .ok (.iconst 1, 1) := by decide +kernel
theorem dX9_fitsOne_53 : decode cX9_fitsOne 53 = .ok (.iand, 1) := by decide +kernel
theorem dX9_fitsOne_54 : decode cX9_fitsOne 54 = .ok (.iconst 1, 1) := by decide +kernel
theorem dX9_fitsOne_55 : decode cX9_fitsOne 55 = .ok (.if_icmp .ne 7, 3) := by decide +kernel
theorem dX9_fitsOne_58 : decode cX9_fitsOne 58 = .ok (.iconst 1, 1) := by decide +kernel
theorem dX9_fitsOne_59 : decode cX9_fitsOne 59 = .ok (.goto 4, 3) := by decide +kernel
theorem dX9_fitsOne_62 : decode cX9_fitsOne 62 = .ok (.iconst 0, 1) := by decide +kernel
theorem dX9_fitsOne_63 : decode cX9_fitsOne 63 = .ok (.istore 4, 2) := by decide +kernel
theorem dX9_fitsOne_65 : decode cX9_fitsOne 65 = .ok (.aload_n 0, 1) := by decide +kernel
theorem dX9_fitsOne_66 : decode cX9_fitsOne 66 = .ok (.iload_n 1, 1) := by decide +kernel
theorem dX9_fitsOne_67 : decode cX9_fitsOne 67 = .ok (.iload_n 3, 1) := by decide +kernel
theorem dX9_fitsOne_68 : decode cX9_fitsOne 68 = .ok (.invokevirtual 33, 3) := by decide +kernel
theorem dX9_fitsOne_71 : decode cX9_fitsOne 71 = .ok (.istore 5, 2) := by decide +kernel
theorem dX9_fitsOne_73 : decode cX9_fitsOne 73 = .ok (.iload 4, 2) := by decide +kernel
theorem dX9_fitsOne_75 : decode cX9_fitsOne 75 = .ok (.ifCond .eq 28, 3) := by decide +kernel
theorem dX9_fitsOne_78 : decode cX9_fitsOne 78 = .ok (.iload 5, 2) := by decide +kernel
theorem dX9_fitsOne_80 : decode cX9_fitsOne 80 = .ok (.aload_n 0, 1) := by decide +kernel
theorem dX9_fitsOne_81 : decode cX9_fitsOne 81 = .ok (.aload_n 0, 1) := by decide +kernel
theorem dX9_fitsOne_82 : decode cX9_fitsOne 82 = .ok (.getfield 7, 3) := by decide +kernel
theorem dX9_fitsOne_85 : decode cX9_fitsOne 85 = .ok (.bipush 13, 2) := by decide +kernel
theorem dX9_fitsOne_87 : decode cX9_fitsOne 87 = .ok (.iaload, 1) := by decide +kernel
theorem dX9_fitsOne_88 : decode cX9_fitsOne 88 = .ok (.iload_n 3, 1) := by decide +kernel
theorem dX9_fitsOne_89 : decode cX9_fitsOne 89 = .ok (.invokevirtual 33, 3) := by decide +kernel
theorem dX9_fitsOne_92 : decode cX9_fitsOne 92 = .ok (.if_icmp .ne 7, 3) := by decide +kernel
theorem dX9_fitsOne_95 : decode cX9_fitsOne 95 = .ok (.iconst 1, 1) := by decide +kernel
theorem dX9_fitsOne_96 : decode cX9_fitsOne 96 = .ok (.goto 27, 3) := by decide +kernel
theorem dX9_fitsOne_99 : decode cX9_fitsOne 99 = .ok (.iconst 0, 1) := by decide +kernel
theorem dX9_fitsOne_100 : decode cX9_fitsOne 100 = .ok (.goto 23, 3) := by decide +kernel
theorem dX9_fitsOne_103 : decode cX9_fitsOne 103 = .ok (.aload_n 0, 1) := by decide +kernel
theorem dX9_fitsOne_104 : decode cX9_fitsOne 104 = .ok (.getfield 7, 3) := by decide +kernel
theorem dX9_fitsOne_107 : decode cX9_fitsOne 107 = .ok (.bipush 6, 2) := by decide +kernel
theorem dX9_fitsOne_109 : decode cX9_fitsOne 109 = .ok (.iaload, 1) := by decide +kernel
theorem dX9_fitsOne_110 : decode cX9_fitsOne 110 = .ok (.iload 5, 2) := by decide +kernel
theorem dX9_fitsOne_112 : decode cX9_fitsOne 112 = .ok (.ishr, 1) := by decide +kernel
theorem dX9_fitsOne_113 : decode cX9_fitsOne 113 = .ok (.iconst 1, 1) := by decide +kernel
theorem dX9_fitsOne_114 : decode cX9_fitsOne 114 = .ok (.iand, 1) := by decide +kernel
theorem dX9_fitsOne_115 : decode cX9_fitsOne 115 = .ok (.ifCond .ne 7, 3) := by decide +kernel
theorem dX9_fitsOne_118 : decode cX9_fitsOne 118 = .ok (.iconst 1, 1) := by decide +kernel
theorem dX9_fitsOne_119 : decode cX9_fitsOne 119 = .ok (.goto 4, 3) := by decide +kernel
theorem dX9_fitsOne_122 : decode cX9_fitsOne 122 = .ok (.iconst 0, 1) := by decide +kernel
theorem dX9_fitsOne_123 : decode cX9_fitsOne 123 = .ok (.istore_n 2, 1) := by decide +kernel
theorem dX9_fitsOne_124 : decode cX9_fitsOne 124 = .ok (.iinc 3 1, 3) := by decide +kernel
theorem dX9_fitsOne_127 : decode cX9_fitsOne 127 = .ok (.goto (-98), 3) := by decide +kernel
theorem dX9_fitsOne_130 : decode cX9_fitsOne 130 = .ok (.iload_n 2, 1) := by decide +kernel
theorem dX9_fitsOne_131 : decode cX9_fitsOne 131 = .ok (.ireturn, 1) := by decide +kernel
theorem dX9_fitting_0 : decode cX9_fitting 0 = .ok (.iconst 0, 1) := by decide +kernel
theorem dX9_fitting_1 : decode cX9_fitting 1 = .ok (.istore_n 1, 1) := by decide +kernel
theorem dX9_fitting_2 : decode cX9_fitting 2 = .ok (.iconst 0, 1) := by decide +kernel
theorem dX9_fitting_3 : decode cX9_fitting 3 = .ok (.istore_n 2, 1) := by decide +kernel
theorem dX9_fitting_4 : decode cX9_fitting 4 = .ok (.iload_n 2, 1) := by decide +kernel
theorem dX9_fitting_5 : decode cX9_fitting 5 = .ok (.aload_n 0, 1) := by decide +kernel
theorem dX9_fitting_6 : decode cX9_fitting 6 = .ok (.getfield 7, 3) := by decide +kernel
theorem dX9_fitting_9 : decode cX9_fitting 9 = .ok (.iconst 0, 1) := by decide +kernel
theorem dX9_fitting_10 : decode cX9_fitting 10 = .ok (.iaload, 1) := by decide +kernel
theorem dX9_fitting_11 : decode cX9_fitting 11 = .ok (.if_icmp .ge 27, 3) := by decide +kernel
theorem dX9_fitting_14 : decode cX9_fitting 14 = .ok (.iload_n 1, 1) := by decide +kernel
theorem dX9_fitting_15 : decode cX9_fitting 15 = .ok (.aload_n 0, 1) := by decide +kernel
theorem dX9_fitting_16 : decode cX9_fitting 16 = .ok (.iload_n 2, 1) := by decide +kernel
theorem dX9_fitting_17 : decode cX9_fitting 17 = .ok (.invokevirtual 95, 3) := by decide +kernel
theorem dX9_fitting_20 : decode cX9_fitting 20 = .ok (.ifCond .eq 9, 3) := by decide +kernel
theorem dX9_fitting_23 : decode cX9_fitting 23 = .ok (.iconst 1, 1) := by decide +kernel
theorem dX9_fitting_24 : decode cX9_fitting 24 = .ok (.iload_n 2, 1) := by decide +kernel
theorem dX9_fitting_25 : decode cX9_fitting 25 = .ok (.ishl, 1) := by decide +kernel
theorem dX9_fitting_26 : decode cX9_fitting 26 = .ok (.goto 4, 3) := by decide +kernel
theorem dX9_fitting_29 : decode cX9_fitting 29 = .ok (.iconst 0, 1) := by decide +kernel
theorem dX9_fitting_30 : decode cX9_fitting 30 = .ok (.ior, 1) := by decide +kernel
theorem dX9_fitting_31 : decode cX9_fitting 31 = .ok (.istore_n 1, 1) := by decide +kernel
theorem dX9_fitting_32 : decode cX9_fitting 32 = .ok (.iinc 2 1, 3) := by decide +kernel
theorem dX9_fitting_35 : decode cX9_fitting 35 = .ok (.goto (-31), 3) := by decide +kernel
theorem dX9_fitting_38 : decode cX9_fitting 38 = .ok (.iload_n 1, 1) := by decide +kernel
theorem dX9_fitting_39 : decode cX9_fitting 39 = .ok (.ireturn, 1) := by decide +kernel
theorem dX9_weightsOf_0 : decode cX9_weightsOf 0 = .ok (.iconst 0, 1) := by decide +kernel
theorem dX9_weightsOf_1 : decode cX9_weightsOf 1 = .ok (.istore_n 3, 1) := by decide +kernel
theorem dX9_weightsOf_2 : decode cX9_weightsOf 2 = .ok (.iconst 0, 1) := by decide +kernel
theorem dX9_weightsOf_3 : decode cX9_weightsOf 3 = .ok (.istore 4, 2) := by decide +kernel
theorem dX9_weightsOf_5 : decode cX9_weightsOf 5 = .ok (.iload 4, 2) := by decide +kernel
theorem dX9_weightsOf_7 : decode cX9_weightsOf 7 = .ok (.aload_n 0, 1) := by decide +kernel
theorem dX9_weightsOf_8 : decode cX9_weightsOf 8 = .ok (.getfield 7, 3) := by decide +kernel
theorem dX9_weightsOf_11 : decode cX9_weightsOf 11 = .ok (.iconst 0, 1) := by decide +kernel
theorem dX9_weightsOf_12 : decode cX9_weightsOf 12 = .ok (.iaload, 1) := by decide +kernel
theorem dX9_weightsOf_13 : decode cX9_weightsOf 13 = .ok (.if_icmp .ge 61, 3) := by decide +kernel
theorem dX9_weightsOf_16 : decode cX9_weightsOf 16 = .ok (.iload_n 2, 1) := by decide +kernel
theorem dX9_weightsOf_17 : decode cX9_weightsOf 17 = .ok (.bipush 26, 2) := by decide +kernel
theorem dX9_weightsOf_19 : decode cX9_weightsOf 19 = .ok (.if_icmp .eq 13, 3) := by decide +kernel
theorem dX9_weightsOf_22 : decode cX9_weightsOf 22 = .ok (.aload_n 0, 1) := by decide +kernel
theorem dX9_weightsOf_23 : decode cX9_weightsOf 23 = .ok (.iload 4, 2) := by decide +kernel
theorem dX9_weightsOf_25 : decode cX9_weightsOf 25 = .ok (.iload_n 2, 1) := by decide +kernel
theorem dX9_weightsOf_26 : decode cX9_weightsOf 26 = .ok (.invokevirtual 85, 3) := by decide +kernel
theorem dX9_weightsOf_29 : decode cX9_weightsOf 29 = .ok (.ifCond .eq 7, 3) := by decide +kernel
theorem dX9_weightsOf_32 : decode cX9_weightsOf 32 = .ok (.iconst 1, 1) := by decide +kernel
theorem dX9_weightsOf_33 : decode cX9_weightsOf 33 = .ok (.goto 4, 3) := by decide +kernel
theorem dX9_weightsOf_36 : decode cX9_weightsOf 36 = .ok (.iconst 0, 1) := by decide +kernel
theorem dX9_weightsOf_37 : decode cX9_weightsOf 37 = .ok (.istore 5, 2) := by decide +kernel
theorem dX9_weightsOf_39 : decode cX9_weightsOf 39 = .ok (.iload_n 3, 1) := by decide +kernel
theorem dX9_weightsOf_40 : decode cX9_weightsOf 40 = .ok (.iload_n 1, 1) := by decide +kernel
theorem dX9_weightsOf_41 : decode cX9_weightsOf 41 = .ok (.iload 4, 2) := by decide +kernel
theorem dX9_weightsOf_43 : decode cX9_weightsOf 43 = .ok (.ishr, 1) := by decide +kernel
theorem dX9_weightsOf_44 : decode cX9_weightsOf 44 = .ok (.iconst 1, 1) := by decide +kernel
theorem dX9_weightsOf_45 : decode cX9_weightsOf 45 = .ok (.iand, 1) := by decide +kernel
theorem dX9_weightsOf_46 : decode cX9_weightsOf 46 = .ok (.iconst 1, 1) := by decide +kernel
theorem dX9_weightsOf_47 : decode cX9_weightsOf 47 = .ok (.if_icmp .ne 18, 3) := by decide +kernel
theorem dX9_weightsOf_50 : decode cX9_weightsOf 50 = .ok (.iload 5, 2) := by decide +kernel
theorem dX9_weightsOf_52 : decode cX9_weightsOf 52 = .ok (.ifCond .eq 13, 3) := by decide +kernel
theorem dX9_weightsOf_55 : decode cX9_weightsOf 55 = .ok (.aload_n 0, 1) := by decide +kernel
theorem dX9_weightsOf_56 : decode cX9_weightsOf 56 = .ok (.iload 4, 2) := by decide +kernel
theorem dX9_weightsOf_58 : decode cX9_weightsOf 58 = .ok (.iconst 1, 1) := by decide +kernel
theorem dX9_weightsOf_59 : decode cX9_weightsOf 59 = .ok (.invokevirtual 29, 3) := by decide +kernel
theorem dX9_weightsOf_62 : decode cX9_weightsOf 62 = .ok (.goto 4, 3) := by decide +kernel
theorem dX9_weightsOf_65 : decode cX9_weightsOf 65 = .ok (.iconst 0, 1) := by decide +kernel
theorem dX9_weightsOf_66 : decode cX9_weightsOf 66 = .ok (.iadd, 1) := by decide +kernel
theorem dX9_weightsOf_67 : decode cX9_weightsOf 67 = .ok (.istore_n 3, 1) := by decide +kernel
theorem dX9_weightsOf_68 : decode cX9_weightsOf 68 = .ok (.iinc 4 1, 3) := by decide +kernel
theorem dX9_weightsOf_71 : decode cX9_weightsOf 71 = .ok (.goto (-66), 3) := by decide +kernel
theorem dX9_weightsOf_74 : decode cX9_weightsOf 74 = .ok (.iload_n 3, 1) := by decide +kernel
theorem dX9_weightsOf_75 : decode cX9_weightsOf 75 = .ok (.ireturn, 1) := by decide +kernel
theorem dX9_bestLetter_0 : decode cX9_bestLetter 0 = .ok (.bipush (-4), 2) := by decide +kernel
theorem dX9_bestLetter_2 : decode cX9_bestLetter 2 = .ok (.istore_n 2, 1) := by decide +kernel
theorem dX9_bestLetter_3 : decode cX9_bestLetter 3 = .ok (.iconst (-1), 1) := by decide +kernel
theorem dX9_bestLetter_4 : decode cX9_bestLetter 4 = .ok (.istore_n 3, 1) := by decide +kernel
theorem dX9_bestLetter_5 : decode cX9_bestLetter 5 = .ok (.iconst 0, 1) := by decide +kernel
theorem dX9_bestLetter_6 : decode cX9_bestLetter 6 = .ok (.istore 4, 2) := by decide +kernel
theorem dX9_bestLetter_8 : decode cX9_bestLetter 8 = .ok (.iload 4, 2) := by decide +kernel
theorem dX9_bestLetter_10 : decode cX9_bestLetter 10 = .ok (.bipush 26, 2) := by decide +kernel
theorem dX9_bestLetter_12 : decode cX9_bestLetter 12 = .ok (.if_icmp .ge 64, 3) := by decide +kernel
theorem dX9_bestLetter_15 : decode cX9_bestLetter 15 = .ok (.aload_n 0, 1) := by decide +kernel
theorem dX9_bestLetter_16 : decode cX9_bestLetter 16 = .ok (.getfield 7, 3) := by decide +kernel
theorem dX9_bestLetter_19 : decode cX9_bestLetter 19 = .ok (.bipush 6, 2) := by decide +kernel
theorem dX9_bestLetter_21 : decode cX9_bestLetter 21 = .ok (.iaload, 1) := by decide +kernel
theorem dX9_bestLetter_22 : decode cX9_bestLetter 22 = .ok (.iload 4, 2) := by decide +kernel
theorem dX9_bestLetter_24 : decode cX9_bestLetter 24 = .ok (.ishr, 1) := by decide +kernel
theorem dX9_bestLetter_25 : decode cX9_bestLetter 25 = .ok (.iconst 1, 1) := by decide +kernel
theorem dX9_bestLetter_26 : decode cX9_bestLetter 26 = .ok (.iand, 1) := by decide +kernel
theorem dX9_bestLetter_27 : decode cX9_bestLetter 27 = .ok (.iconst 1, 1) := by decide +kernel
theorem dX9_bestLetter_28 : decode cX9_bestLetter 28 = .ok (.if_icmp .ne 7, 3) := by decide +kernel
theorem dX9_bestLetter_31 : decode cX9_bestLetter 31 = .ok (.iconst (-1), 1) := by decide +kernel
theorem dX9_bestLetter_32 : decode cX9_bestLetter 32 = .ok (.goto 10, 3) := by decide +kernel
theorem dX9_bestLetter_35 : decode cX9_bestLetter 35 = .ok (.aload_n 0, 1) := by decide +kernel
theorem dX9_bestLetter_36 : decode cX9_bestLetter 36 = .ok (.iload_n 1, 1) := by decide +kernel
theorem dX9_bestLetter_37 : decode cX9_bestLetter 37 = .ok (.iload 4, 2) := by decide +kernel
theorem dX9_bestLetter_39 : decode cX9_bestLetter 39 = .ok (.invokevirtual 98, 3) := by decide +kernel
theorem dX9_bestLetter_42 : decode cX9_bestLetter 42 = .ok (.istore 5, 2) := by decide +kernel
theorem dX9_bestLetter_44 : decode cX9_bestLetter 44 = .ok (.iload 5, 2) := by decide +kernel
theorem dX9_bestLetter_46 : decode cX9_bestLetter 46 = .ok (.iload_n 3, 1) := by decide +kernel
theorem dX9_bestLetter_47 : decode cX9_bestLetter 47 = .ok (.if_icmp .le 8, 3) := by decide +kernel
theorem dX9_bestLetter_50 : decode cX9_bestLetter 50 = .ok (.iload 4, 2) := by decide +kernel
theorem dX9_bestLetter_52 : decode cX9_bestLetter 52 = .ok (.goto 4, 3) := by decide +kernel
theorem dX9_bestLetter_55 : decode cX9_bestLetter 55 = .ok (.iload_n 2, 1) := by decide +kernel
theorem dX9_bestLetter_56 : decode cX9_bestLetter 56 = .ok (.istore_n 2, 1) := by decide +kernel
theorem dX9_bestLetter_57 : decode cX9_bestLetter 57 = .ok (.iload 5, 2) := by decide +kernel
theorem dX9_bestLetter_59 : decode cX9_bestLetter 59 = .ok (.iload_n 3, 1) := by decide +kernel
theorem dX9_bestLetter_60 : decode cX9_bestLetter 60 = .ok (.if_icmp .le 8, 3) := by decide +kernel
theorem dX9_bestLetter_63 : decode cX9_bestLetter 63 = .ok (.iload 5, 2) := by decide +kernel
theorem dX9_bestLetter_65 : decode cX9_bestLetter 65 = .ok (.goto 4, 3) := by decide +kernel
theorem dX9_bestLetter_68 : decode cX9_bestLetter 68 = .ok (.iload_n 3, 1) := by decide +kernel
theorem dX9_bestLetter_69 : decode cX9_bestLetter 69 = .ok (.istore_n 3, 1) := by decide +kernel
theorem dX9_bestLetter_70 : decode cX9_bestLetter 70 = .ok (.iinc 4 1, 3) := by decide +kernel
theorem dX9_bestLetter_73 : decode cX9_bestLetter 73 = .ok (.goto (-65), 3) := by decide +kernel
theorem dX9_bestLetter_76 : decode cX9_bestLetter 76 = .ok (.iload_n 2, 1) := by decide +kernel
theorem dX9_bestLetter_77 : decode cX9_bestLetter 77 = .ok (.ireturn, 1) := by decide +kernel
theorem dX9_fits_0 : decode cX9_fits 0 = .ok (.iload_n 1, 1) := by decide +kernel
theorem dX9_fits_1 : decode cX9_fits 1 = .ok (.iconst 0, 1) := by decide +kernel
theorem dX9_fits_2 : decode cX9_fits 2 = .ok (.iconst 4, 1) := by decide +kernel
theorem dX9_fits_3 : decode cX9_fits 3 = .ok (.invokestatic 40, 3) := by decide +kernel
theorem dX9_fits_6 : decode cX9_fits 6 = .ok (.ifCond .ne 5, 3) := by decide +kernel
theorem dX9_fits_9 : decode cX9_fits 9 = .ok (.iconst (-1), 1) := by decide +kernel
theorem dX9_fits_10 : decode cX9_fits 10 = .ok (.ireturn, 1) := by decide +kernel
theorem dX9_fits_11 : decode cX9_fits 11 = .ok (.aload_n 0, 1) := by decide +kernel
theorem dX9_fits_12 : decode cX9_fits 12 = .ok (.invokevirtual 44, 3) := by decide +kernel
theorem dX9_fits_15 : decode cX9_fits 15 = .ok (.ifCond .ne 6, 3) := by decide +kernel
theorem dX9_fits_18 : decode cX9_fits 18 = .ok (.bipush (-2), 2) := by decide +kernel
theorem dX9_fits_20 : decode cX9_fits 20 = .ok (.ireturn, 1) := by decide +kernel
theorem dX9_fits_21 : decode cX9_fits 21 = .ok (.aload_n 0, 1) := by decide +kernel
theorem dX9_fits_22 : decode cX9_fits 22 = .ok (.invokevirtual 101, 3) := by decide +kernel
theorem dX9_fits_25 : decode cX9_fits 25 = .ok (.istore_n 2, 1) := by decide +kernel
theorem dX9_fits_26 : decode cX9_fits 26 = .ok (.iload_n 1, 1) := by decide +kernel
theorem dX9_fits_27 : decode cX9_fits 27 = .ok (.tableswitch 50 0 3 #[29, 31, 36, 44], 29) := by decide +kernel
theorem dX9_fits_56 : decode cX9_fits 56 = .ok (.iload_n 2, 1) := by decide +kernel
theorem dX9_fits_57 : decode cX9_fits 57 = .ok (.ireturn, 1) := by decide +kernel
theorem dX9_fits_58 : decode cX9_fits 58 = .ok (.iload_n 2, 1) := by decide +kernel
theorem dX9_fits_59 : decode cX9_fits 59 = .ok (.invokestatic 82, 3) := by decide +kernel
theorem dX9_fits_62 : decode cX9_fits 62 = .ok (.ireturn, 1) := by decide +kernel
theorem dX9_fits_63 : decode cX9_fits 63 = .ok (.aload_n 0, 1) := by decide +kernel
theorem dX9_fits_64 : decode cX9_fits 64 = .ok (.iload_n 2, 1) := by decide +kernel
theorem dX9_fits_65 : decode cX9_fits 65 = .ok (.bipush 26, 2) := by decide +kernel
theorem dX9_fits_67 : decode cX9_fits 67 = .ok (.invokevirtual 98, 3) := by decide +kernel
theorem dX9_fits_70 : decode cX9_fits 70 = .ok (.ireturn, 1) := by decide +kernel
theorem dX9_fits_71 : decode cX9_fits 71 = .ok (.aload_n 0, 1) := by decide +kernel
theorem dX9_fits_72 : decode cX9_fits 72 = .ok (.iload_n 2, 1) := by decide +kernel
theorem dX9_fits_73 : decode cX9_fits 73 = .ok (.invokevirtual 104, 3) := by decide +kernel
theorem dX9_fits_76 : decode cX9_fits 76 = .ok (.ireturn, 1) := by decide +kernel
theorem dX9_fits_77 : decode cX9_fits 77 = .ok (.aload_n 0, 1) := by decide +kernel
theorem dX9_fits_78 : decode cX9_fits 78 = .ok (.iload_n 2, 1) := by decide +kernel
theorem dX9_fits_79 : decode cX9_fits 79 = .ok (.aload_n 0, 1) := by decide +kernel
theorem dX9_fits_80 : decode cX9_fits 80 = .ok (.iload_n 2, 1) := by decide +kernel
theorem dX9_fits_81 : decode cX9_fits 81 = .ok (.invokevirtual 104, 3) := by decide +kernel
theorem dX9_fits_84 : decode cX9_fits 84 = .ok (.invokevirtual 98, 3) := by decide +kernel
theorem dX9_fits_87 : decode cX9_fits 87 = .ok (.ireturn, 1) := by decide +kernel
theorem dX9_greatest_0 : decode cX9_greatest 0 = .ok (.iconst 0, 1) := by decide +kernel
theorem dX9_greatest_1 : decode cX9_greatest 1 = .ok (.istore_n 3, 1) := by decide +kernel
theorem dX9_greatest_2 : decode cX9_greatest 2 = .ok (.iconst 0, 1) := by decide +kernel
theorem dX9_greatest_3 : decode cX9_greatest 3 = .ok (.istore 4, 2) := by decide +kernel
theorem dX9_greatest_5 : decode cX9_greatest 5 = .ok (.iload 4, 2) := by decide +kernel
theorem dX9_greatest_7 : decode cX9_greatest 7 = .ok (.aload_n 0, 1) := by decide +kernel
theorem dX9_greatest_8 : decode cX9_greatest 8 = .ok (.getfield 7, 3) := by decide +kernel
theorem dX9_greatest_11 : decode cX9_greatest 11 = .ok (.iconst 0, 1) := by decide +kernel
theorem dX9_greatest_12 : decode cX9_greatest 12 = .ok (.iaload, 1) := by decide +kernel
theorem dX9_greatest_13 : decode cX9_greatest 13 = .ok (.if_icmp .ge 92, 3) := by decide +kernel
theorem dX9_greatest_16 : decode cX9_greatest 16 = .ok (.iconst 0, 1) := by decide +kernel
theorem dX9_greatest_17 : decode cX9_greatest 17 = .ok (.istore 5, 2) := by decide +kernel
theorem dX9_greatest_19 : decode cX9_greatest 19 = .ok (.iconst 0, 1) := by decide +kernel
theorem dX9_greatest_20 : decode cX9_greatest 20 = .ok (.istore 6, 2) := by decide +kernel
theorem dX9_greatest_22 : decode cX9_greatest 22 = .ok (.iload 6, 2) := by decide +kernel
theorem dX9_greatest_24 : decode cX9_greatest 24 = .ok (.aload_n 0, 1) := by decide +kernel
theorem dX9_greatest_25 : decode cX9_greatest 25 = .ok (.getfield 7, 3) := by decide +kernel
theorem dX9_greatest_28 : decode cX9_greatest 28 = .ok (.iconst 0, 1) := by decide +kernel
theorem dX9_greatest_29 : decode cX9_greatest 29 = .ok (.iaload, 1) := by decide +kernel
theorem dX9_greatest_30 : decode cX9_greatest 30 = .ok (.if_icmp .ge 56, 3) := by decide +kernel
theorem dX9_greatest_33 : decode cX9_greatest 33 = .ok (.iload_n 1, 1) := by decide +kernel
theorem dX9_greatest_34 : decode cX9_greatest 34 = .ok (.iload 4, 2) := by decide +kernel
theorem dX9_greatest_36 : decode cX9_greatest 36 = .ok (.ishr, 1) := by decide +kernel
theorem dX9_greatest_37 : decode cX9_greatest 37 = .ok (.iconst 1, 1) := by decide +kernel
theorem dX9_greatest_38 : decode cX9_greatest 38 = .ok (.iand, 1) := by decide +kernel
theorem dX9_greatest_39 : decode cX9_greatest 39 = .ok (.iconst 1, 1) := by decide +kernel
theorem dX9_greatest_40 : decode cX9_greatest 40 = .ok (.if_icmp .ne 46, 3) := by decide +kernel
theorem dX9_greatest_43 : decode cX9_greatest 43 = .ok (.iload 5, 2) := by decide +kernel
theorem dX9_greatest_45 : decode cX9_greatest 45 = .ok (.iload_n 1, 1) := by decide +kernel
theorem dX9_greatest_46 : decode cX9_greatest 46 = .ok (.iload 6, 2) := by decide +kernel
theorem dX9_greatest_48 : decode cX9_greatest 48 = .ok (.ishr, 1) := by decide +kernel
theorem dX9_greatest_49 : decode cX9_greatest 49 = .ok (.iconst 1, 1) := by decide +kernel
theorem dX9_greatest_50 : decode cX9_greatest 50 = .ok (.iand, 1) := by decide +kernel
theorem dX9_greatest_51 : decode cX9_greatest 51 = .ok (.iconst 1, 1) := by decide +kernel
theorem dX9_greatest_52 : decode cX9_greatest 52 = .ok (.if_icmp .ne 24, 3) := by decide +kernel
theorem dX9_greatest_55 : decode cX9_greatest 55 = .ok (.aload_n 0, 1) := by decide +kernel
theorem dX9_greatest_56 : decode cX9_greatest 56 = .ok (.iload 6, 2) := by decide +kernel
theorem dX9_greatest_58 : decode cX9_greatest 58 = .ok (.iload_n 2, 1) := by decide +kernel
theorem dX9_greatest_59 : decode cX9_greatest 59 = .ok (.invokevirtual 85, 3) := by decide +kernel
theorem dX9_greatest_62 : decode cX9_greatest 62 = .ok (.aload_n 0, 1) := by decide +kernel
theorem dX9_greatest_63 : decode cX9_greatest 63 = .ok (.iload 4, 2) := by decide +kernel
theorem dX9_greatest_65 : decode cX9_greatest 65 = .ok (.iload_n 2, 1) := by decide +kernel
theorem dX9_greatest_66 : decode cX9_greatest 66 = .ok (.invokevirtual 85, 3) := by decide +kernel
theorem dX9_greatest_69 : decode cX9_greatest 69 = .ok (.if_icmp .ne 7, 3) := by decide +kernel
theorem dX9_greatest_72 : decode cX9_greatest 72 = .ok (.iconst 1, 1) := by decide +kernel
theorem dX9_greatest_73 : decode cX9_greatest 73 = .ok (.goto 4, 3) := by decide +kernel
theorem dX9_greatest_76 : decode cX9_greatest 76 = .ok (.iconst 0, 1) := by decide +kernel
theorem dX9_greatest_77 : decode cX9_greatest 77 = .ok (.iadd, 1) := by decide +kernel
theorem dX9_greatest_78 : decode cX9_greatest 78 = .ok (.istore 5, 2) := by decide +kernel
theorem dX9_greatest_80 : decode cX9_greatest 80 = .ok (.iinc 6 1, 3) := by decide +kernel
theorem dX9_greatest_83 : decode cX9_greatest 83 = .ok (.goto (-61), 3) := by decide +kernel
theorem dX9_greatest_86 : decode cX9_greatest 86 = .ok (.iload 5, 2) := by decide +kernel
theorem dX9_greatest_88 : decode cX9_greatest 88 = .ok (.iload_n 3, 1) := by decide +kernel
theorem dX9_greatest_89 : decode cX9_greatest 89 = .ok (.if_icmp .le 8, 3) := by decide +kernel
theorem dX9_greatest_92 : decode cX9_greatest 92 = .ok (.iload 5, 2) := by decide +kernel
theorem dX9_greatest_94 : decode cX9_greatest 94 = .ok (.goto 4, 3) := by decide +kernel
theorem dX9_greatest_97 : decode cX9_greatest 97 = .ok (.iload_n 3, 1) := by decide +kernel
theorem dX9_greatest_98 : decode cX9_greatest 98 = .ok (.istore_n 3, 1) := by decide +kernel
theorem dX9_greatest_99 : decode cX9_greatest 99 = .ok (.iinc 4 1, 3) := by decide +kernel
theorem dX9_greatest_102 : decode cX9_greatest 102 = .ok (.goto (-97), 3) := by decide +kernel
theorem dX9_greatest_105 : decode cX9_greatest 105 = .ok (.iload_n 3, 1) := by decide +kernel
theorem dX9_greatest_106 : decode cX9_greatest 106 = .ok (.ireturn, 1) := by decide +kernel
theorem dX9_letterOf_0 : decode cX9_letterOf 0 = .ok (.iload_n 1, 1) := by decide +kernel
theorem dX9_letterOf_1 : decode cX9_letterOf 1 = .ok (.iconst 0, 1) := by decide +kernel
theorem dX9_letterOf_2 : decode cX9_letterOf 2 = .ok (.bipush 25, 2) := by decide +kernel
theorem dX9_letterOf_4 : decode cX9_letterOf 4 = .ok (.invokestatic 40, 3) := by decide +kernel
theorem dX9_letterOf_7 : decode cX9_letterOf 7 = .ok (.ifCond .eq 12, 3) := by decide +kernel
theorem dX9_letterOf_10 : decode cX9_letterOf 10 = .ok (.iload_n 2, 1) := by decide +kernel
theorem dX9_letterOf_11 : decode cX9_letterOf 11 = .ok (.iconst 0, 1) := by decide +kernel
theorem dX9_letterOf_12 : decode cX9_letterOf 12 = .ok (.iconst 2, 1) := by decide +kernel
theorem dX9_letterOf_13 : decode cX9_letterOf 13 = .ok (.invokestatic 40, 3) := by decide +kernel
theorem dX9_letterOf_16 : decode cX9_letterOf 16 = .ok (.ifCond .ne 5, 3) := by decide +kernel
theorem dX9_letterOf_19 : decode cX9_letterOf 19 = .ok (.iconst (-1), 1) := by decide +kernel
theorem dX9_letterOf_20 : decode cX9_letterOf 20 = .ok (.ireturn, 1) := by decide +kernel
theorem dX9_letterOf_21 : decode cX9_letterOf 21 = .ok (.aload_n 0, 1) := by decide +kernel
theorem dX9_letterOf_22 : decode cX9_letterOf 22 = .ok (.invokevirtual 44, 3) := by decide +kernel
theorem dX9_letterOf_25 : decode cX9_letterOf 25 = .ok (.ifCond .eq 18, 3) := by decide +kernel
theorem dX9_letterOf_28 : decode cX9_letterOf 28 = .ok (.aload_n 0, 1) := by decide +kernel
theorem dX9_letterOf_29 : decode cX9_letterOf 29 = .ok (.getfield 7, 3) := by decide +kernel
theorem dX9_letterOf_32 : decode cX9_letterOf 32 = .ok (.bipush 6, 2) := by decide +kernel
theorem dX9_letterOf_34 : decode cX9_letterOf 34 = .ok (.iaload, 1) := by decide +kernel
theorem dX9_letterOf_35 : decode cX9_letterOf 35 = .ok (.iload_n 1, 1) := by decide +kernel
theorem dX9_letterOf_36 : decode cX9_letterOf 36 = .ok (.ishr, 1) := by decide +kernel
theorem dX9_letterOf_37 : decode cX9_letterOf 37 = .ok (.iconst 1, 1) := by decide +kernel
theorem dX9_letterOf_38 : decode cX9_letterOf 38 = .ok (.iand, 1) := by decide +kernel
theorem dX9_letterOf_39 : decode cX9_letterOf 39 = .ok (.iconst 1, 1) := by decide +kernel
theorem dX9_letterOf_40 : decode cX9_letterOf 40 = .ok (.if_icmp .ne 6, 3) := by decide +kernel
theorem dX9_letterOf_43 : decode cX9_letterOf 43 = .ok (.bipush (-2), 2) := by decide +kernel
theorem dX9_letterOf_45 : decode cX9_letterOf 45 = .ok (.ireturn, 1) := by decide +kernel
theorem dX9_letterOf_46 : decode cX9_letterOf 46 = .ok (.aload_n 0, 1) := by decide +kernel
theorem dX9_letterOf_47 : decode cX9_letterOf 47 = .ok (.invokevirtual 101, 3) := by decide +kernel
theorem dX9_letterOf_50 : decode cX9_letterOf 50 = .ok (.istore_n 3, 1) := by decide +kernel
theorem dX9_letterOf_51 : decode cX9_letterOf 51 = .ok (.aload_n 0, 1) := by decide +kernel
theorem dX9_letterOf_52 : decode cX9_letterOf 52 = .ok (.iload_n 3, 1) := by decide +kernel
theorem dX9_letterOf_53 : decode cX9_letterOf 53 = .ok (.iload_n 1, 1) := by decide +kernel
theorem dX9_letterOf_54 : decode cX9_letterOf 54 = .ok (.invokevirtual 98, 3) := by decide +kernel
theorem dX9_letterOf_57 : decode cX9_letterOf 57 = .ok (.i2f, 1) := by decide +kernel
theorem dX9_letterOf_58 : decode cX9_letterOf 58 = .ok (.aload_n 0, 1) := by decide +kernel
theorem dX9_letterOf_59 : decode cX9_letterOf 59 = .ok (.iload_n 3, 1) := by decide +kernel
theorem dX9_letterOf_60 : decode cX9_letterOf 60 = .ok (.bipush 26, 2) := by decide +kernel
theorem dX9_letterOf_62 : decode cX9_letterOf 62 = .ok (.invokevirtual 98, 3) := by decide +kernel
theorem dX9_letterOf_65 : decode cX9_letterOf 65 = .ok (.i2f, 1) := by decide +kernel
theorem dX9_letterOf_66 : decode cX9_letterOf 66 = .ok (.fdiv, 1) := by decide +kernel
theorem dX9_letterOf_67 : decode cX9_letterOf 67 = .ok (.fstore 4, 2) := by decide +kernel
theorem dX9_letterOf_69 : decode cX9_letterOf 69 = .ok (.iload_n 2, 1) := by decide +kernel
theorem dX9_letterOf_70 : decode cX9_letterOf 70 = .ok (.ifCond .ne 12, 3) := by decide +kernel
theorem dX9_letterOf_73 : decode cX9_letterOf 73 = .ok (.aload_n 0, 1) := by decide +kernel
theorem dX9_letterOf_74 : decode cX9_letterOf 74 = .ok (.iload_n 3, 1) := by decide +kernel
theorem dX9_letterOf_75 : decode cX9_letterOf 75 = .ok (.iload_n 1, 1) := by decide +kernel
theorem dX9_letterOf_76 : decode cX9_letterOf 76 = .ok (.invokevirtual 98, 3) := by decide +kernel
theorem dX9_letterOf_79 : decode cX9_letterOf 79 = .ok (.goto 22, 3) := by decide +kernel
theorem dX9_letterOf_82 : decode cX9_letterOf 82 = .ok (.iload_n 2, 1) := by decide +kernel
theorem dX9_letterOf_83 : decode cX9_letterOf 83 = .ok (.iconst 1, 1) := by decide +kernel
theorem dX9_letterOf_84 : decode cX9_letterOf 84 = .ok (.if_icmp .ne 11, 3) := by decide +kernel
theorem dX9_letterOf_87 : decode cX9_letterOf 87 = .ok (.fload 4, 2) := by decide +kernel
theorem dX9_letterOf_89 : decode cX9_letterOf 89 = .ok (.invokestatic 107, 3) := by decide +kernel
theorem dX9_letterOf_92 : decode cX9_letterOf 92 = .ok (.goto 9, 3) := by decide +kernel
theorem dX9_letterOf_95 : decode cX9_letterOf 95 = .ok (.aload_n 0, 1) := by decide +kernel
theorem dX9_letterOf_96 : decode cX9_letterOf 96 = .ok (.iload_n 3, 1) := by decide +kernel
theorem dX9_letterOf_97 : decode cX9_letterOf 97 = .ok (.iload_n 1, 1) := by decide +kernel
theorem dX9_letterOf_98 : decode cX9_letterOf 98 = .ok (.invokevirtual 113, 3) := by decide +kernel
theorem dX9_letterOf_101 : decode cX9_letterOf 101 = .ok (.ireturn, 1) := by decide +kernel
theorem dX9_sharpest_0 : decode cX9_sharpest 0 = .ok (.aload_n 0, 1) := by decide +kernel
theorem dX9_sharpest_1 : decode cX9_sharpest 1 = .ok (.invokevirtual 44, 3) := by decide +kernel
theorem dX9_sharpest_4 : decode cX9_sharpest 4 = .ok (.ifCond .ne 6, 3) := by decide +kernel
theorem dX9_sharpest_7 : decode cX9_sharpest 7 = .ok (.bipush (-2), 2) := by decide +kernel
theorem dX9_sharpest_9 : decode cX9_sharpest 9 = .ok (.ireturn, 1) := by decide +kernel
theorem dX9_sharpest_10 : decode cX9_sharpest 10 = .ok (.aload_n 0, 1) := by decide +kernel
theorem dX9_sharpest_11 : decode cX9_sharpest 11 = .ok (.invokevirtual 101, 3) := by decide +kernel
theorem dX9_sharpest_14 : decode cX9_sharpest 14 = .ok (.istore_n 1, 1) := by decide +kernel
theorem dX9_sharpest_15 : decode cX9_sharpest 15 = .ok (.bipush (-4), 2) := by decide +kernel
theorem dX9_sharpest_17 : decode cX9_sharpest 17 = .ok (.istore_n 2, 1) := by decide +kernel
theorem dX9_sharpest_18 : decode cX9_sharpest 18 = .ok (.bipush 17, 2) := by decide +kernel
theorem dX9_sharpest_20 : decode cX9_sharpest 20 = .ok (.istore_n 3, 1) := by decide +kernel
theorem dX9_sharpest_21 : decode cX9_sharpest 21 = .ok (.iconst 0, 1) := by decide +kernel
theorem dX9_sharpest_22 : decode cX9_sharpest 22 = .ok (.istore 4, 2) := by decide +kernel
theorem dX9_sharpest_24 : decode cX9_sharpest 24 = .ok (.iload 4, 2) := by decide +kernel
theorem dX9_sharpest_26 : decode cX9_sharpest 26 = .ok (.bipush 26, 2) := by decide +kernel
theorem dX9_sharpest_28 : decode cX9_sharpest 28 = .ok (.if_icmp .ge 65, 3) := by decide +kernel
theorem dX9_sharpest_31 : decode cX9_sharpest 31 = .ok (.aload_n 0, 1) := by decide +kernel
theorem dX9_sharpest_32 : decode cX9_sharpest 32 = .ok (.getfield 7, 3) := by decide +kernel
theorem dX9_sharpest_35 : decode cX9_sharpest 35 = .ok (.bipush 6, 2) := by decide +kernel
theorem dX9_sharpest_37 : decode cX9_sharpest 37 = .ok (.iaload, 1) := by decide +kernel
theorem dX9_sharpest_38 : decode cX9_sharpest 38 = .ok (.iload 4, 2) := by decide +kernel
theorem dX9_sharpest_40 : decode cX9_sharpest 40 = .ok (.ishr, 1) := by decide +kernel
theorem dX9_sharpest_41 : decode cX9_sharpest 41 = .ok (.iconst 1, 1) := by decide +kernel
theorem dX9_sharpest_42 : decode cX9_sharpest 42 = .ok (.iand, 1) := by decide +kernel
theorem dX9_sharpest_43 : decode cX9_sharpest 43 = .ok (.iconst 1, 1) := by decide +kernel
theorem dX9_sharpest_44 : decode cX9_sharpest 44 = .ok (.if_icmp .ne 8, 3) := by decide +kernel
theorem dX9_sharpest_47 : decode cX9_sharpest 47 = .ok (.bipush 17, 2) := by decide +kernel
theorem dX9_sharpest_49 : decode cX9_sharpest 49 = .ok (.goto 10, 3) := by decide +kernel
theorem dX9_sharpest_52 : decode cX9_sharpest 52 = .ok (.aload_n 0, 1) := by decide +kernel
theorem dX9_sharpest_53 : decode cX9_sharpest 53 = .ok (.iload_n 1, 1) := by decide +kernel
theorem dX9_sharpest_54 : decode cX9_sharpest 54 = .ok (.iload 4, 2) := by decide +kernel
theorem dX9_sharpest_56 : decode cX9_sharpest 56 = .ok (.invokevirtual 113, 3) := by decide +kernel
theorem dX9_sharpest_59 : decode cX9_sharpest 59 = .ok (.istore 5, 2) := by decide +kernel
theorem dX9_sharpest_61 : decode cX9_sharpest 61 = .ok (.iload 5, 2) := by decide +kernel
theorem dX9_sharpest_63 : decode cX9_sharpest 63 = .ok (.iload_n 3, 1) := by decide +kernel
theorem dX9_sharpest_64 : decode cX9_sharpest 64 = .ok (.if_icmp .ge 8, 3) := by decide +kernel
theorem dX9_sharpest_67 : decode cX9_sharpest 67 = .ok (.iload 4, 2) := by decide +kernel
theorem dX9_sharpest_69 : decode cX9_sharpest 69 = .ok (.goto 4, 3) := by decide +kernel
theorem dX9_sharpest_72 : decode cX9_sharpest 72 = .ok (.iload_n 2, 1) := by decide +kernel
theorem dX9_sharpest_73 : decode cX9_sharpest 73 = .ok (.istore_n 2, 1) := by decide +kernel
theorem dX9_sharpest_74 : decode cX9_sharpest 74 = .ok (.iload 5, 2) := by decide +kernel
theorem dX9_sharpest_76 : decode cX9_sharpest 76 = .ok (.iload_n 3, 1) := by decide +kernel
theorem dX9_sharpest_77 : decode cX9_sharpest 77 = .ok (.if_icmp .ge 8, 3) := by decide +kernel
theorem dX9_sharpest_80 : decode cX9_sharpest 80 = .ok (.iload 5, 2) := by decide +kernel
theorem dX9_sharpest_82 : decode cX9_sharpest 82 = .ok (.goto 4, 3) := by decide +kernel
theorem dX9_sharpest_85 : decode cX9_sharpest 85 = .ok (.iload_n 3, 1) := by decide +kernel
theorem dX9_sharpest_86 : decode cX9_sharpest 86 = .ok (.istore_n 3, 1) := by decide +kernel
theorem dX9_sharpest_87 : decode cX9_sharpest 87 = .ok (.iinc 4 1, 3) := by decide +kernel
theorem dX9_sharpest_90 : decode cX9_sharpest 90 = .ok (.goto (-66), 3) := by decide +kernel
theorem dX9_sharpest_93 : decode cX9_sharpest 93 = .ok (.iload_n 2, 1) := by decide +kernel
theorem dX9_sharpest_94 : decode cX9_sharpest 94 = .ok (.ireturn, 1) := by decide +kernel
theorem dX9_next_0 : decode cX9_next 0 = .ok (.aload_n 0, 1) := by decide +kernel
theorem dX9_next_1 : decode cX9_next 1 = .ok (.invokevirtual 44, 3) := by decide +kernel
theorem dX9_next_4 : decode cX9_next 4 = .ok (.ifCond .ne 12, 3) := by decide +kernel
theorem dX9_next_7 : decode cX9_next 7 = .ok (.aload_n 0, 1) := by decide +kernel
theorem dX9_next_8 : decode cX9_next 8 = .ok (.getfield 7, 3) := by decide +kernel
theorem dX9_next_11 : decode cX9_next 11 = .ok (.iconst 0, 1) := by decide +kernel
theorem dX9_next_12 : decode cX9_next 12 = .ok (.iaload, 1) := by decide +kernel
theorem dX9_next_13 : decode cX9_next 13 = .ok (.ifCond .ne 8, 3) := by decide +kernel
theorem dX9_next_16 : decode cX9_next 16 = .ok (.bipush (-2), 2) := by decide +kernel
theorem dX9_next_18 : decode cX9_next 18 = .ok (.goto 11, 3) := by decide +kernel
theorem dX9_next_21 : decode cX9_next 21 = .ok (.aload_n 0, 1) := by decide +kernel
theorem dX9_next_22 : decode cX9_next 22 = .ok (.aload_n 0, 1) := by decide +kernel
theorem dX9_next_23 : decode cX9_next 23 = .ok (.invokevirtual 71, 3) := by decide +kernel
theorem dX9_next_26 : decode cX9_next 26 = .ok (.invokevirtual 74, 3) := by decide +kernel
theorem dX9_next_29 : decode cX9_next 29 = .ok (.ireturn, 1) := by decide +kernel
theorem dX9_lettersOf_0 : decode cX9_lettersOf 0 = .ok (.iconst 0, 1) := by decide +kernel
theorem dX9_lettersOf_1 : decode cX9_lettersOf 1 = .ok (.istore_n 2, 1) := by decide +kernel
theorem dX9_lettersOf_2 : decode cX9_lettersOf 2 = .ok (.iconst 0, 1) := by decide +kernel
theorem dX9_lettersOf_3 : decode cX9_lettersOf 3 = .ok (.istore_n 3, 1) := by decide +kernel
theorem dX9_lettersOf_4 : decode cX9_lettersOf 4 = .ok (.iload_n 3, 1) := by decide +kernel
theorem dX9_lettersOf_5 : decode cX9_lettersOf 5 = .ok (.aload_n 0, 1) := by decide +kernel
theorem dX9_lettersOf_6 : decode cX9_lettersOf 6 = .ok (.iload_n 1, 1) := by decide +kernel
theorem dX9_lettersOf_7 : decode cX9_lettersOf 7 = .ok (.iconst 0, 1) := by decide +kernel
theorem dX9_lettersOf_8 : decode cX9_lettersOf 8 = .ok (.invokevirtual 29, 3) := by decide +kernel
theorem dX9_lettersOf_11 : decode cX9_lettersOf 11 = .ok (.if_icmp .ge 20, 3) := by decide +kernel
theorem dX9_lettersOf_14 : decode cX9_lettersOf 14 = .ok (.iload_n 2, 1) := by decide +kernel
theorem dX9_lettersOf_15 : decode cX9_lettersOf 15 = .ok (.iconst 1, 1) := by decide +kernel
theorem dX9_lettersOf_16 : decode cX9_lettersOf 16 = .ok (.aload_n 0, 1) := by decide +kernel
theorem dX9_lettersOf_17 : decode cX9_lettersOf 17 = .ok (.iload_n 1, 1) := by decide +kernel
theorem dX9_lettersOf_18 : decode cX9_lettersOf 18 = .ok (.iload_n 3, 1) := by decide +kernel
theorem dX9_lettersOf_19 : decode cX9_lettersOf 19 = .ok (.invokevirtual 33, 3) := by decide +kernel
theorem dX9_lettersOf_22 : decode cX9_lettersOf 22 = .ok (.ishl, 1) := by decide +kernel
theorem dX9_lettersOf_23 : decode cX9_lettersOf 23 = .ok (.ior, 1) := by decide +kernel
theorem dX9_lettersOf_24 : decode cX9_lettersOf 24 = .ok (.istore_n 2, 1) := by decide +kernel
theorem dX9_lettersOf_25 : decode cX9_lettersOf 25 = .ok (.iinc 3 1, 3) := by decide +kernel
theorem dX9_lettersOf_28 : decode cX9_lettersOf 28 = .ok (.goto (-24), 3) := by decide +kernel
theorem dX9_lettersOf_31 : decode cX9_lettersOf 31 = .ok (.iload_n 2, 1) := by decide +kernel
theorem dX9_lettersOf_32 : decode cX9_lettersOf 32 = .ok (.ireturn, 1) := by decide +kernel
theorem dX9_wordOf_0 : decode cX9_wordOf 0 = .ok (.aload_n 0, 1) := by decide +kernel
theorem dX9_wordOf_1 : decode cX9_wordOf 1 = .ok (.iload_n 1, 1) := by decide +kernel
theorem dX9_wordOf_2 : decode cX9_wordOf 2 = .ok (.invokevirtual 36, 3) := by decide +kernel
theorem dX9_wordOf_5 : decode cX9_wordOf 5 = .ok (.ifCond .eq 30, 3) := by decide +kernel
theorem dX9_wordOf_8 : decode cX9_wordOf 8 = .ok (.iload_n 2, 1) := by decide +kernel
theorem dX9_wordOf_9 : decode cX9_wordOf 9 = .ok (.iconst 0, 1) := by decide +kernel
theorem dX9_wordOf_10 : decode cX9_wordOf 10 = .ok (.iconst 4, 1) := by decide +kernel
theorem dX9_wordOf_11 : decode cX9_wordOf 11 = .ok (.invokestatic 40, 3) := by decide +kernel
theorem dX9_wordOf_14 : decode cX9_wordOf 14 = .ok (.ifCond .ne 23, 3) := by decide +kernel
theorem dX9_wordOf_17 : decode cX9_wordOf 17 = .ok (.iload_n 2, 1) := by decide +kernel
theorem dX9_wordOf_18 : decode cX9_wordOf 18 = .ok (.bipush 10, 2) := by decide +kernel
theorem dX9_wordOf_20 : decode cX9_wordOf 20 = .ok (.bipush 9, 2) := by decide +kernel
theorem dX9_wordOf_22 : decode cX9_wordOf 22 = .ok (.aload_n 0, 1) := by decide +kernel
theorem dX9_wordOf_23 : decode cX9_wordOf 23 = .ok (.iload_n 1, 1) := by decide +kernel
theorem dX9_wordOf_24 : decode cX9_wordOf 24 = .ok (.iconst 0, 1) := by decide +kernel
theorem dX9_wordOf_25 : decode cX9_wordOf 25 = .ok (.invokevirtual 29, 3) := by decide +kernel
theorem dX9_wordOf_28 : decode cX9_wordOf 28 = .ok (.iadd, 1) := by decide +kernel
theorem dX9_wordOf_29 : decode cX9_wordOf 29 = .ok (.invokestatic 40, 3) := by decide +kernel
theorem dX9_wordOf_32 : decode cX9_wordOf 32 = .ok (.ifCond .ne 5, 3) := by decide +kernel
theorem dX9_wordOf_35 : decode cX9_wordOf 35 = .ok (.iconst (-1), 1) := by decide +kernel
theorem dX9_wordOf_36 : decode cX9_wordOf 36 = .ok (.ireturn, 1) := by decide +kernel
theorem dX9_wordOf_37 : decode cX9_wordOf 37 = .ok (.iload_n 2, 1) := by decide +kernel
theorem dX9_wordOf_38 : decode cX9_wordOf 38 = .ok (.tableswitch 80 0 4 #[34, 34, 41, 47, 54], 34) := by decide +kernel
theorem dX9_wordOf_72 : decode cX9_wordOf 72 = .ok (.aload_n 0, 1) := by decide +kernel
theorem dX9_wordOf_73 : decode cX9_wordOf 73 = .ok (.iload_n 1, 1) := by decide +kernel
theorem dX9_wordOf_74 : decode cX9_wordOf 74 = .ok (.iload_n 2, 1) := by decide +kernel
theorem dX9_wordOf_75 : decode cX9_wordOf 75 = .ok (.invokevirtual 29, 3) := by decide +kernel
theorem dX9_wordOf_78 : decode cX9_wordOf 78 = .ok (.ireturn, 1) := by decide +kernel
theorem dX9_wordOf_79 : decode cX9_wordOf 79 = .ok (.aload_n 0, 1) := by decide +kernel
theorem dX9_wordOf_80 : decode cX9_wordOf 80 = .ok (.iload_n 1, 1) := by decide +kernel
theorem dX9_wordOf_81 : decode cX9_wordOf 81 = .ok (.invokevirtual 116, 3) := by decide +kernel
theorem dX9_wordOf_84 : decode cX9_wordOf 84 = .ok (.ireturn, 1) := by decide +kernel
theorem dX9_wordOf_85 : decode cX9_wordOf 85 = .ok (.aload_n 0, 1) := by decide +kernel
theorem dX9_wordOf_86 : decode cX9_wordOf 86 = .ok (.iload_n 1, 1) := by decide +kernel
theorem dX9_wordOf_87 : decode cX9_wordOf 87 = .ok (.iconst 2, 1) := by decide +kernel
theorem dX9_wordOf_88 : decode cX9_wordOf 88 = .ok (.invokevirtual 29, 3) := by decide +kernel
theorem dX9_wordOf_91 : decode cX9_wordOf 91 = .ok (.ireturn, 1) := by decide +kernel
theorem dX9_wordOf_92 : decode cX9_wordOf 92 = .ok (.aload_n 0, 1) := by decide +kernel
theorem dX9_wordOf_93 : decode cX9_wordOf 93 = .ok (.invokevirtual 44, 3) := by decide +kernel
theorem dX9_wordOf_96 : decode cX9_wordOf 96 = .ok (.ifCond .ne 8, 3) := by decide +kernel
theorem dX9_wordOf_99 : decode cX9_wordOf 99 = .ok (.bipush (-4), 2) := by decide +kernel
theorem dX9_wordOf_101 : decode cX9_wordOf 101 = .ok (.goto 16, 3) := by decide +kernel
theorem dX9_wordOf_104 : decode cX9_wordOf 104 = .ok (.aload_n 0, 1) := by decide +kernel
theorem dX9_wordOf_105 : decode cX9_wordOf 105 = .ok (.iload_n 1, 1) := by decide +kernel
theorem dX9_wordOf_106 : decode cX9_wordOf 106 = .ok (.invokevirtual 95, 3) := by decide +kernel
theorem dX9_wordOf_109 : decode cX9_wordOf 109 = .ok (.ifCond .eq 7, 3) := by decide +kernel
theorem dX9_wordOf_112 : decode cX9_wordOf 112 = .ok (.iconst 1, 1) := by decide +kernel
theorem dX9_wordOf_113 : decode cX9_wordOf 113 = .ok (.goto 4, 3) := by decide +kernel
theorem dX9_wordOf_116 : decode cX9_wordOf 116 = .ok (.iconst 0, 1) := by decide +kernel
theorem dX9_wordOf_117 : decode cX9_wordOf 117 = .ok (.ireturn, 1) := by decide +kernel
theorem dX9_wordOf_118 : decode cX9_wordOf 118 = .ok (.aload_n 0, 1) := by decide +kernel
theorem dX9_wordOf_119 : decode cX9_wordOf 119 = .ok (.iload_n 1, 1) := by decide +kernel
theorem dX9_wordOf_120 : decode cX9_wordOf 120 = .ok (.iload_n 2, 1) := by decide +kernel
theorem dX9_wordOf_121 : decode cX9_wordOf 121 = .ok (.bipush 10, 2) := by decide +kernel
theorem dX9_wordOf_123 : decode cX9_wordOf 123 = .ok (.isub, 1) := by decide +kernel
theorem dX9_wordOf_124 : decode cX9_wordOf 124 = .ok (.invokevirtual 33, 3) := by decide +kernel
theorem dX9_wordOf_127 : decode cX9_wordOf 127 = .ok (.ireturn, 1) := by decide +kernel
theorem dX9_playerOf_0 : decode cX9_playerOf 0 = .ok (.aload_n 0, 1) := by decide +kernel
theorem dX9_playerOf_1 : decode cX9_playerOf 1 = .ok (.iload_n 1, 1) := by decide +kernel
theorem dX9_playerOf_2 : decode cX9_playerOf 2 = .ok (.invokevirtual 54, 3) := by decide +kernel
theorem dX9_playerOf_5 : decode cX9_playerOf 5 = .ok (.ifCond .eq 12, 3) := by decide +kernel
theorem dX9_playerOf_8 : decode cX9_playerOf 8 = .ok (.iload_n 2, 1) := by decide +kernel
theorem dX9_playerOf_9 : decode cX9_playerOf 9 = .ok (.iconst 0, 1) := by decide +kernel
theorem dX9_playerOf_10 : decode cX9_playerOf 10 = .ok (.iconst 5, 1) := by decide +kernel
theorem dX9_playerOf_11 : decode cX9_playerOf 11 = .ok (.invokestatic 40, 3) := by decide +kernel
theorem dX9_playerOf_14 : decode cX9_playerOf 14 = .ok (.ifCond .ne 5, 3) := by decide +kernel
theorem dX9_playerOf_17 : decode cX9_playerOf 17 = .ok (.iconst (-1), 1) := by decide +kernel
theorem dX9_playerOf_18 : decode cX9_playerOf 18 = .ok (.ireturn, 1) := by decide +kernel
theorem dX9_playerOf_19 : decode cX9_playerOf 19 = .ok (.iload_n 2, 1) := by decide +kernel
theorem dX9_playerOf_20 : decode cX9_playerOf 20 = .ok (.iconst 3, 1) := by decide +kernel
theorem dX9_playerOf_21 : decode cX9_playerOf 21 = .ok (.if_icmp .le 23, 3) := by decide +kernel
theorem dX9_playerOf_24 : decode cX9_playerOf 24 = .ok (.aload_n 0, 1) := by decide +kernel
theorem dX9_playerOf_25 : decode cX9_playerOf 25 = .ok (.getfield 7, 3) := by decide +kernel
theorem dX9_playerOf_28 : decode cX9_playerOf 28 = .ok (.iload_n 1, 1) := by decide +kernel
theorem dX9_playerOf_29 : decode cX9_playerOf 29 = .ok (.iconst 4, 1) := by decide +kernel
theorem dX9_playerOf_30 : decode cX9_playerOf 30 = .ok (.invokestatic 51, 3) := by decide +kernel
theorem dX9_playerOf_33 : decode cX9_playerOf 33 = .ok (.iaload, 1) := by decide +kernel
theorem dX9_playerOf_34 : decode cX9_playerOf 34 = .ok (.bipush 26, 2) := by decide +kernel
theorem dX9_playerOf_36 : decode cX9_playerOf 36 = .ok (.if_icmp .ne 8, 3) := by decide +kernel
theorem dX9_playerOf_39 : decode cX9_playerOf 39 = .ok (.bipush (-4), 2) := by decide +kernel
theorem dX9_playerOf_41 : decode cX9_playerOf 41 = .ok (.goto 13, 3) := by decide +kernel
theorem dX9_playerOf_44 : decode cX9_playerOf 44 = .ok (.aload_n 0, 1) := by decide +kernel
theorem dX9_playerOf_45 : decode cX9_playerOf 45 = .ok (.getfield 7, 3) := by decide +kernel
theorem dX9_playerOf_48 : decode cX9_playerOf 48 = .ok (.iload_n 1, 1) := by decide +kernel
theorem dX9_playerOf_49 : decode cX9_playerOf 49 = .ok (.iload_n 2, 1) := by decide +kernel
theorem dX9_playerOf_50 : decode cX9_playerOf 50 = .ok (.invokestatic 51, 3) := by decide +kernel
theorem dX9_playerOf_53 : decode cX9_playerOf 53 = .ok (.iaload, 1) := by decide +kernel
theorem dX9_playerOf_54 : decode cX9_playerOf 54 = .ok (.ireturn, 1) := by decide +kernel
theorem dX9_open_0 : decode cX9_open 0 = .ok (.iload_n 1, 1) := by decide +kernel
theorem dX9_open_1 : decode cX9_open 1 = .ok (.ifCond .ge 5, 3) := by decide +kernel
theorem dX9_open_4 : decode cX9_open 4 = .ok (.iconst (-1), 1) := by decide +kernel
theorem dX9_open_5 : decode cX9_open 5 = .ok (.ireturn, 1) := by decide +kernel
theorem dX9_open_6 : decode cX9_open 6 = .ok (.aload_n 0, 1) := by decide +kernel
theorem dX9_open_7 : decode cX9_open 7 = .ok (.invokevirtual 44, 3) := by decide +kernel
theorem dX9_open_10 : decode cX9_open 10 = .ok (.ifCond .ne 6, 3) := by decide +kernel
theorem dX9_open_13 : decode cX9_open 13 = .ok (.bipush (-2), 2) := by decide +kernel
theorem dX9_open_15 : decode cX9_open 15 = .ok (.ireturn, 1) := by decide +kernel
theorem dX9_open_16 : decode cX9_open 16 = .ok (.iload_n 1, 1) := by decide +kernel
theorem dX9_open_17 : decode cX9_open 17 = .ok (.aload_n 0, 1) := by decide +kernel
theorem dX9_open_18 : decode cX9_open 18 = .ok (.aload_n 0, 1) := by decide +kernel
theorem dX9_open_19 : decode cX9_open 19 = .ok (.getfield 7, 3) := by decide +kernel
theorem dX9_open_22 : decode cX9_open 22 = .ok (.bipush 13, 2) := by decide +kernel
theorem dX9_open_24 : decode cX9_open 24 = .ok (.iaload, 1) := by decide +kernel
theorem dX9_open_25 : decode cX9_open 25 = .ok (.iconst 0, 1) := by decide +kernel
theorem dX9_open_26 : decode cX9_open 26 = .ok (.invokevirtual 29, 3) := by decide +kernel
theorem dX9_open_29 : decode cX9_open 29 = .ok (.if_icmp .lt 6, 3) := by decide +kernel
theorem dX9_open_32 : decode cX9_open 32 = .ok (.bipush (-4), 2) := by decide +kernel
theorem dX9_open_34 : decode cX9_open 34 = .ok (.ireturn, 1) := by decide +kernel
theorem dX9_open_35 : decode cX9_open 35 = .ok (.aload_n 0, 1) := by decide +kernel
theorem dX9_open_36 : decode cX9_open 36 = .ok (.getfield 7, 3) := by decide +kernel
theorem dX9_open_39 : decode cX9_open 39 = .ok (.bipush 7, 2) := by decide +kernel
theorem dX9_open_41 : decode cX9_open 41 = .ok (.iaload, 1) := by decide +kernel
theorem dX9_open_42 : decode cX9_open 42 = .ok (.iload_n 1, 1) := by decide +kernel
theorem dX9_open_43 : decode cX9_open 43 = .ok (.ishr, 1) := by decide +kernel
theorem dX9_open_44 : decode cX9_open 44 = .ok (.iconst 1, 1) := by decide +kernel
theorem dX9_open_45 : decode cX9_open 45 = .ok (.iand, 1) := by decide +kernel
theorem dX9_open_46 : decode cX9_open 46 = .ok (.iconst 1, 1) := by decide +kernel
theorem dX9_open_47 : decode cX9_open 47 = .ok (.if_icmp .ne 18, 3) := by decide +kernel
theorem dX9_open_50 : decode cX9_open 50 = .ok (.aload_n 0, 1) := by decide +kernel
theorem dX9_open_51 : decode cX9_open 51 = .ok (.aload_n 0, 1) := by decide +kernel
theorem dX9_open_52 : decode cX9_open 52 = .ok (.getfield 7, 3) := by decide +kernel
theorem dX9_open_55 : decode cX9_open 55 = .ok (.bipush 13, 2) := by decide +kernel
theorem dX9_open_57 : decode cX9_open 57 = .ok (.iaload, 1) := by decide +kernel
theorem dX9_open_58 : decode cX9_open 58 = .ok (.iload_n 1, 1) := by decide +kernel
theorem dX9_open_59 : decode cX9_open 59 = .ok (.invokevirtual 33, 3) := by decide +kernel
theorem dX9_open_62 : decode cX9_open 62 = .ok (.goto 5, 3) := by decide +kernel
theorem dX9_open_65 : decode cX9_open 65 = .ok (.bipush 26, 2) := by decide +kernel
theorem dX9_open_67 : decode cX9_open 67 = .ok (.ireturn, 1) := by decide +kernel
theorem dX9_round_0 : decode cX9_round 0 = .ok (.iload_n 1, 1) := by decide +kernel
theorem dX9_round_1 : decode cX9_round 1 = .ok (.ifCond .lt 12, 3) := by decide +kernel
theorem dX9_round_4 : decode cX9_round 4 = .ok (.iload_n 2, 1) := by decide +kernel
theorem dX9_round_5 : decode cX9_round 5 = .ok (.iconst 0, 1) := by decide +kernel
theorem dX9_round_6 : decode cX9_round 6 = .ok (.iconst 3, 1) := by decide +kernel
theorem dX9_round_7 : decode cX9_round 7 = .ok (.invokestatic 40, 3) := by decide +kernel
theorem dX9_round_10 : decode cX9_round 10 = .ok (.ifCond .ne 5, 3) := by decide +kernel
theorem dX9_round_13 : decode cX9_round 13 = .ok (.iconst (-1), 1) := by decide +kernel
theorem dX9_round_14 : decode cX9_round 14 = .ok (.ireturn, 1) := by decide +kernel
theorem dX9_round_15 : decode cX9_round 15 = .ok (.iload_n 1, 1) := by decide +kernel
theorem dX9_round_16 : decode cX9_round 16 = .ok (.aload_n 0, 1) := by decide +kernel
theorem dX9_round_17 : decode cX9_round 17 = .ok (.getfield 7, 3) := by decide +kernel
theorem dX9_round_20 : decode cX9_round 20 = .ok (.bipush 15, 2) := by decide +kernel
theorem dX9_round_22 : decode cX9_round 22 = .ok (.iaload, 1) := by decide +kernel
theorem dX9_round_23 : decode cX9_round 23 = .ok (.if_icmp .ge 20, 3) := by decide +kernel
theorem dX9_round_26 : decode cX9_round 26 = .ok (.aload_n 0, 1) := by decide +kernel
theorem dX9_round_27 : decode cX9_round 27 = .ok (.getfield 7, 3) := by decide +kernel
theorem dX9_round_30 : decode cX9_round 30 = .ok (.sipush 222, 3) := by decide +kernel
theorem dX9_round_33 : decode cX9_round 33 = .ok (.iconst 4, 1) := by decide +kernel
theorem dX9_round_34 : decode cX9_round 34 = .ok (.iload_n 1, 1) := by decide +kernel
theorem dX9_round_35 : decode cX9_round 35 = .ok (.imul, 1) := by decide +kernel
theorem dX9_round_36 : decode cX9_round 36 = .ok (.iadd, 1) := by decide +kernel
theorem dX9_round_37 : decode cX9_round 37 = .ok (.iload_n 2, 1) := by decide +kernel
theorem dX9_round_38 : decode cX9_round 38 = .ok (.iadd, 1) := by decide +kernel
theorem dX9_round_39 : decode cX9_round 39 = .ok (.iaload, 1) := by decide +kernel
theorem dX9_round_40 : decode cX9_round 40 = .ok (.goto 5, 3) := by decide +kernel
theorem dX9_round_43 : decode cX9_round 43 = .ok (.bipush (-4), 2) := by decide +kernel
theorem dX9_round_45 : decode cX9_round 45 = .ok (.ireturn, 1) := by decide +kernel
theorem dX9_count_0 : decode cX9_count 0 = .ok (.iload_n 1, 1) := by decide +kernel
theorem dX9_count_1 : decode cX9_count 1 = .ok (.tableswitch 171 0 15 #[79, 79, 79, 86, 86, 86, 86, 105, 128, 128, 128, 135, 140, 145, 150, 163], 79) := by decide +kernel
theorem dX9_count_80 : decode cX9_count 80 = .ok (.aload_n 0, 1) := by decide +kernel
theorem dX9_count_81 : decode cX9_count 81 = .ok (.getfield 7, 3) := by decide +kernel
theorem dX9_count_84 : decode cX9_count 84 = .ok (.iload_n 1, 1) := by decide +kernel
theorem dX9_count_85 : decode cX9_count 85 = .ok (.iaload, 1) := by decide +kernel
theorem dX9_count_86 : decode cX9_count 86 = .ok (.ireturn, 1) := by decide +kernel
theorem dX9_count_87 : decode cX9_count 87 = .ok (.aload_n 0, 1) := by decide +kernel
theorem dX9_count_88 : decode cX9_count 88 = .ok (.invokevirtual 44, 3) := by decide +kernel
theorem dX9_count_91 : decode cX9_count 91 = .ok (.ifCond .eq 12, 3) := by decide +kernel
theorem dX9_count_94 : decode cX9_count 94 = .ok (.aload_n 0, 1) := by decide +kernel
theorem dX9_count_95 : decode cX9_count 95 = .ok (.getfield 7, 3) := by decide +kernel
theorem dX9_count_98 : decode cX9_count 98 = .ok (.iload_n 1, 1) := by decide +kernel
theorem dX9_count_99 : decode cX9_count 99 = .ok (.iaload, 1) := by decide +kernel
theorem dX9_count_100 : decode cX9_count 100 = .ok (.goto 5, 3) := by decide +kernel
theorem dX9_count_103 : decode cX9_count 103 = .ok (.bipush (-4), 2) := by decide +kernel
theorem dX9_count_105 : decode cX9_count 105 = .ok (.ireturn, 1) := by decide +kernel
theorem dX9_count_106 : decode cX9_count 106 = .ok (.aload_n 0, 1) := by decide +kernel
theorem dX9_count_107 : decode cX9_count 107 = .ok (.invokevirtual 44, 3) := by decide +kernel
theorem dX9_count_110 : decode cX9_count 110 = .ok (.ifCond .eq 16, 3) := by decide +kernel
theorem dX9_count_113 : decode cX9_count 113 = .ok (.aload_n 0, 1) := by decide +kernel
theorem dX9_count_114 : decode cX9_count 114 = .ok (.getfield 7, 3) := by decide +kernel
theorem dX9_count_117 : decode cX9_count 117 = .ok (.bipush 7, 2) := by decide +kernel
theorem dX9_count_119 : decode cX9_count 119 = .ok (.iaload, 1) := by decide +kernel
theorem dX9_count_120 : decode cX9_count 120 = .ok (.invokestatic 82, 3) := by decide +kernel
theorem dX9_count_123 : decode cX9_count 123 = .ok (.goto 5, 3) := by decide +kernel
theorem dX9_count_126 : decode cX9_count 126 = .ok (.bipush (-4), 2) := by decide +kernel
theorem dX9_count_128 : decode cX9_count 128 = .ok (.ireturn, 1) := by decide +kernel
theorem dX9_count_129 : decode cX9_count 129 = .ok (.aload_n 0, 1) := by decide +kernel
theorem dX9_count_130 : decode cX9_count 130 = .ok (.getfield 7, 3) := by decide +kernel
theorem dX9_count_133 : decode cX9_count 133 = .ok (.iload_n 1, 1) := by decide +kernel
theorem dX9_count_134 : decode cX9_count 134 = .ok (.iaload, 1) := by decide +kernel
theorem dX9_count_135 : decode cX9_count 135 = .ok (.ireturn, 1) := by decide +kernel
theorem dX9_count_136 : decode cX9_count 136 = .ok (.aload_n 0, 1) := by decide +kernel
theorem dX9_count_137 : decode cX9_count 137 = .ok (.invokevirtual 64, 3) := by decide +kernel
theorem dX9_count_140 : decode cX9_count 140 = .ok (.ireturn, 1) := by decide +kernel
theorem dX9_count_141 : decode cX9_count 141 = .ok (.aload_n 0, 1) := by decide +kernel
theorem dX9_count_142 : decode cX9_count 142 = .ok (.getfield 25, 3) := by decide +kernel
theorem dX9_count_145 : decode cX9_count 145 = .ok (.ireturn, 1) := by decide +kernel
theorem dX9_count_146 : decode cX9_count 146 = .ok (.aload_n 0, 1) := by decide +kernel
theorem dX9_count_147 : decode cX9_count 147 = .ok (.getfield 119, 3) := by decide +kernel
theorem dX9_count_150 : decode cX9_count 150 = .ok (.ireturn, 1) := by decide +kernel
theorem dX9_count_151 : decode cX9_count 151 = .ok (.aload_n 0, 1) := by decide +kernel
theorem dX9_count_152 : decode cX9_count 152 = .ok (.getfield 122, 3) := by decide +kernel
theorem dX9_count_155 : decode cX9_count 155 = .ok (.ifCond .eq 7, 3) := by decide +kernel
theorem dX9_count_158 : decode cX9_count 158 = .ok (.iconst 1, 1) := by decide +kernel
theorem dX9_count_159 : decode cX9_count 159 = .ok (.goto 4, 3) := by decide +kernel
theorem dX9_count_162 : decode cX9_count 162 = .ok (.iconst 0, 1) := by decide +kernel
theorem dX9_count_163 : decode cX9_count 163 = .ok (.ireturn, 1) := by decide +kernel
theorem dX9_count_164 : decode cX9_count 164 = .ok (.aload_n 0, 1) := by decide +kernel
theorem dX9_count_165 : decode cX9_count 165 = .ok (.getfield 7, 3) := by decide +kernel
theorem dX9_count_168 : decode cX9_count 168 = .ok (.bipush 11, 2) := by decide +kernel
theorem dX9_count_170 : decode cX9_count 170 = .ok (.iaload, 1) := by decide +kernel
theorem dX9_count_171 : decode cX9_count 171 = .ok (.ireturn, 1) := by decide +kernel
theorem dX9_count_172 : decode cX9_count 172 = .ok (.iconst (-1), 1) := by decide +kernel
theorem dX9_count_173 : decode cX9_count 173 = .ok (.ireturn, 1) := by decide +kernel
theorem dX9_keep_0 : decode cX9_keep 0 = .ok (.aload_n 0, 1) := by decide +kernel
theorem dX9_keep_1 : decode cX9_keep 1 = .ok (.getfield 7, 3) := by decide +kernel
theorem dX9_keep_4 : decode cX9_keep 4 = .ok (.aload_n 0, 1) := by decide +kernel
theorem dX9_keep_5 : decode cX9_keep 5 = .ok (.getfield 16, 3) := by decide +kernel
theorem dX9_keep_8 : decode cX9_keep 8 = .ok (.invokestatic 126, 3) := by decide +kernel
theorem dX9_keep_11 : decode cX9_keep 11 = .ok (.aload_n 0, 1) := by decide +kernel
theorem dX9_keep_12 : decode cX9_keep 12 = .ok (.iconst 1, 1) := by decide +kernel
theorem dX9_keep_13 : decode cX9_keep 13 = .ok (.putfield 122, 3) := by decide +kernel
theorem dX9_keep_16 : decode cX9_keep 16 = .ok (.aload_n 0, 1) := by decide +kernel
theorem dX9_keep_17 : decode cX9_keep 17 = .ok (.getfield 7, 3) := by decide +kernel
theorem dX9_keep_20 : decode cX9_keep 20 = .ok (.iconst 1, 1) := by decide +kernel
theorem dX9_keep_21 : decode cX9_keep 21 = .ok (.iaload, 1) := by decide +kernel
theorem dX9_keep_22 : decode cX9_keep 22 = .ok (.ireturn, 1) := by decide +kernel
theorem dX9_restore_0 : decode cX9_restore 0 = .ok (.aload_n 0, 1) := by decide +kernel
theorem dX9_restore_1 : decode cX9_restore 1 = .ok (.getfield 122, 3) := by decide +kernel
theorem dX9_restore_4 : decode cX9_restore 4 = .ok (.ifCond .ne 6, 3) := by decide +kernel
theorem dX9_restore_7 : decode cX9_restore 7 = .ok (.bipush (-2), 2) := by decide +kernel
theorem dX9_restore_9 : decode cX9_restore 9 = .ok (.ireturn, 1) := by decide +kernel
theorem dX9_restore_10 : decode cX9_restore 10 = .ok (.aload_n 0, 1) := by decide +kernel
theorem dX9_restore_11 : decode cX9_restore 11 = .ok (.invokevirtual 48, 3) := by decide +kernel
theorem dX9_restore_14 : decode cX9_restore 14 = .ok (.aload_n 0, 1) := by decide +kernel
theorem dX9_restore_15 : decode cX9_restore 15 = .ok (.getfield 16, 3) := by decide +kernel
theorem dX9_restore_18 : decode cX9_restore 18 = .ok (.aload_n 0, 1) := by decide +kernel
theorem dX9_restore_19 : decode cX9_restore 19 = .ok (.getfield 7, 3) := by decide +kernel
theorem dX9_restore_22 : decode cX9_restore 22 = .ok (.invokestatic 126, 3) := by decide +kernel
theorem dX9_restore_25 : decode cX9_restore 25 = .ok (.aload_n 0, 1) := by decide +kernel
theorem dX9_restore_26 : decode cX9_restore 26 = .ok (.getfield 7, 3) := by decide +kernel
theorem dX9_restore_29 : decode cX9_restore 29 = .ok (.iconst 1, 1) := by decide +kernel
theorem dX9_restore_30 : decode cX9_restore 30 = .ok (.iaload, 1) := by decide +kernel
theorem dX9_restore_31 : decode cX9_restore 31 = .ok (.ireturn, 1) := by decide +kernel
theorem dX9_undo_0 : decode cX9_undo 0 = .ok (.aload_n 0, 1) := by decide +kernel
theorem dX9_undo_1 : decode cX9_undo 1 = .ok (.getfield 25, 3) := by decide +kernel
theorem dX9_undo_4 : decode cX9_undo 4 = .ok (.ifCond .ne 6, 3) := by decide +kernel
theorem dX9_undo_7 : decode cX9_undo 7 = .ok (.bipush (-2), 2) := by decide +kernel
theorem dX9_undo_9 : decode cX9_undo 9 = .ok (.ireturn, 1) := by decide +kernel
theorem dX9_undo_10 : decode cX9_undo 10 = .ok (.aload_n 0, 1) := by decide +kernel
theorem dX9_undo_11 : decode cX9_undo 11 = .ok (.dup, 1) := by decide +kernel
theorem dX9_undo_12 : decode cX9_undo 12 = .ok (.getfield 25, 3) := by decide +kernel
theorem dX9_undo_15 : decode cX9_undo 15 = .ok (.iconst 1, 1) := by decide +kernel
theorem dX9_undo_16 : decode cX9_undo 16 = .ok (.isub, 1) := by decide +kernel
theorem dX9_undo_17 : decode cX9_undo 17 = .ok (.putfield 25, 3) := by decide +kernel
theorem dX9_undo_20 : decode cX9_undo 20 = .ok (.iconst 0, 1) := by decide +kernel
theorem dX9_undo_21 : decode cX9_undo 21 = .ok (.istore_n 1, 1) := by decide +kernel
theorem dX9_undo_22 : decode cX9_undo 22 = .ok (.iload_n 1, 1) := by decide +kernel
theorem dX9_undo_23 : decode cX9_undo 23 = .ok (.sipush 246, 3) := by decide +kernel
theorem dX9_undo_26 : decode cX9_undo 26 = .ok (.if_icmp .ge 30, 3) := by decide +kernel
theorem dX9_undo_29 : decode cX9_undo 29 = .ok (.aload_n 0, 1) := by decide +kernel
theorem dX9_undo_30 : decode cX9_undo 30 = .ok (.getfield 7, 3) := by decide +kernel
theorem dX9_undo_33 : decode cX9_undo 33 = .ok (.iload_n 1, 1) := by decide +kernel
theorem dX9_undo_34 : decode cX9_undo 34 = .ok (.aload_n 0, 1) := by decide +kernel
theorem dX9_undo_35 : decode cX9_undo 35 = .ok (.getfield 13, 3) := by decide +kernel
theorem dX9_undo_38 : decode cX9_undo 38 = .ok (.sipush 246, 3) := by decide +kernel
theorem dX9_undo_41 : decode cX9_undo 41 = .ok (.aload_n 0, 1) := by decide +kernel
theorem dX9_undo_42 : decode cX9_undo 42 = .ok (.getfield 25, 3) := by decide +kernel
theorem dX9_undo_45 : decode cX9_undo 45 = .ok (.imul, 1) := by decide +kernel
theorem dX9_undo_46 : decode cX9_undo 46 = .ok (.iload_n 1, 1) := by decide +kernel
theorem dX9_undo_47 : decode cX9_undo 47 = .ok (.iadd, 1) := by decide +kernel
theorem dX9_undo_48 : decode cX9_undo 48 = .ok (.iaload, 1) := by decide +kernel
theorem dX9_undo_49 : decode cX9_undo 49 = .ok (.iastore, 1) := by decide +kernel
theorem dX9_undo_50 : decode cX9_undo 50 = .ok (.iinc 1 1, 3) := by decide +kernel
theorem dX9_undo_53 : decode cX9_undo 53 = .ok (.goto (-31), 3) := by decide +kernel
theorem dX9_undo_56 : decode cX9_undo 56 = .ok (.aload_n 0, 1) := by decide +kernel
theorem dX9_undo_57 : decode cX9_undo 57 = .ok (.getfield 25, 3) := by decide +kernel
theorem dX9_undo_60 : decode cX9_undo 60 = .ok (.ireturn, 1) := by decide +kernel
theorem dX9_type_0 : decode cX9_type 0 = .ok (.iload_n 1, 1) := by decide +kernel
theorem dX9_type_1 : decode cX9_type 1 = .ok (.bipush 32, 2) := by decide +kernel
theorem dX9_type_3 : decode cX9_type 3 = .ok (.bipush 126, 2) := by decide +kernel
theorem dX9_type_5 : decode cX9_type 5 = .ok (.invokestatic 40, 3) := by decide +kernel
theorem dX9_type_8 : decode cX9_type 8 = .ok (.ifCond .ne 5, 3) := by decide +kernel
theorem dX9_type_11 : decode cX9_type 11 = .ok (.iconst (-1), 1) := by decide +kernel
theorem dX9_type_12 : decode cX9_type 12 = .ok (.ireturn, 1) := by decide +kernel
theorem dX9_type_13 : decode cX9_type 13 = .ok (.aload_n 0, 1) := by decide +kernel
theorem dX9_type_14 : decode cX9_type 14 = .ok (.getfield 119, 3) := by decide +kernel
theorem dX9_type_17 : decode cX9_type 17 = .ok (.bipush 120, 2) := by decide +kernel
theorem dX9_type_19 : decode cX9_type 19 = .ok (.if_icmp .ne 6, 3) := by decide +kernel
theorem dX9_type_22 : decode cX9_type 22 = .ok (.bipush (-3), 2) := by decide +kernel
theorem dX9_type_24 : decode cX9_type 24 = .ok (.ireturn, 1) := by decide +kernel
theorem dX9_type_25 : decode cX9_type 25 = .ok (.aload_n 0, 1) := by decide +kernel
theorem dX9_type_26 : decode cX9_type 26 = .ok (.getfield 19, 3) := by decide +kernel
theorem dX9_type_29 : decode cX9_type 29 = .ok (.aload_n 0, 1) := by decide +kernel
theorem dX9_type_30 : decode cX9_type 30 = .ok (.getfield 119, 3) := by decide +kernel
theorem dX9_type_33 : decode cX9_type 33 = .ok (.iload_n 1, 1) := by decide +kernel
theorem dX9_type_34 : decode cX9_type 34 = .ok (.iastore, 1) := by decide +kernel
theorem dX9_type_35 : decode cX9_type 35 = .ok (.aload_n 0, 1) := by decide +kernel
theorem dX9_type_36 : decode cX9_type 36 = .ok (.dup, 1) := by decide +kernel
theorem dX9_type_37 : decode cX9_type 37 = .ok (.getfield 119, 3) := by decide +kernel
theorem dX9_type_40 : decode cX9_type 40 = .ok (.iconst 1, 1) := by decide +kernel
theorem dX9_type_41 : decode cX9_type 41 = .ok (.iadd, 1) := by decide +kernel
theorem dX9_type_42 : decode cX9_type 42 = .ok (.putfield 119, 3) := by decide +kernel
theorem dX9_type_45 : decode cX9_type 45 = .ok (.aload_n 0, 1) := by decide +kernel
theorem dX9_type_46 : decode cX9_type 46 = .ok (.getfield 119, 3) := by decide +kernel
theorem dX9_type_49 : decode cX9_type 49 = .ok (.ireturn, 1) := by decide +kernel
theorem dX9_clearText_0 : decode cX9_clearText 0 = .ok (.aload_n 0, 1) := by decide +kernel
theorem dX9_clearText_1 : decode cX9_clearText 1 = .ok (.getfield 119, 3) := by decide +kernel
theorem dX9_clearText_4 : decode cX9_clearText 4 = .ok (.istore_n 1, 1) := by decide +kernel
theorem dX9_clearText_5 : decode cX9_clearText 5 = .ok (.aload_n 0, 1) := by decide +kernel
theorem dX9_clearText_6 : decode cX9_clearText 6 = .ok (.iconst 0, 1) := by decide +kernel
theorem dX9_clearText_7 : decode cX9_clearText 7 = .ok (.putfield 119, 3) := by decide +kernel
theorem dX9_clearText_10 : decode cX9_clearText 10 = .ok (.iload_n 1, 1) := by decide +kernel
theorem dX9_clearText_11 : decode cX9_clearText 11 = .ok (.ireturn, 1) := by decide +kernel
theorem dX9_isAt_0 : decode cX9_isAt 0 = .ok (.aload_n 0, 1) := by decide +kernel
theorem dX9_isAt_1 : decode cX9_isAt 1 = .ok (.getfield 130, 3) := by decide +kernel
theorem dX9_isAt_4 : decode cX9_isAt 4 = .ok (.aload_n 0, 1) := by decide +kernel
theorem dX9_isAt_5 : decode cX9_isAt 5 = .ok (.getfield 119, 3) := by decide +kernel
theorem dX9_isAt_8 : decode cX9_isAt 8 = .ok (.if_icmp .ge 24, 3) := by decide +kernel
theorem dX9_isAt_11 : decode cX9_isAt 11 = .ok (.aload_n 0, 1) := by decide +kernel
theorem dX9_isAt_12 : decode cX9_isAt 12 = .ok (.getfield 19, 3) := by decide +kernel
theorem dX9_isAt_15 : decode cX9_isAt 15 = .ok (.aload_n 0, 1) := by decide +kernel
theorem dX9_isAt_16 : decode cX9_isAt 16 = .ok (.getfield 130, 3) := by decide +kernel
theorem dX9_isAt_19 : decode cX9_isAt 19 = .ok (.iaload, 1) := by decide +kernel
theorem dX9_isAt_20 : decode cX9_isAt 20 = .ok (.iload_n 1, 1) := by decide +kernel
theorem dX9_isAt_21 : decode cX9_isAt 21 = .ok (.iload_n 2, 1) := by decide +kernel
theorem dX9_isAt_22 : decode cX9_isAt 22 = .ok (.invokestatic 40, 3) := by decide +kernel
theorem dX9_isAt_25 : decode cX9_isAt 25 = .ok (.ifCond .eq 7, 3) := by decide +kernel
theorem dX9_isAt_28 : decode cX9_isAt 28 = .ok (.iconst 1, 1) := by decide +kernel
theorem dX9_isAt_29 : decode cX9_isAt 29 = .ok (.goto 4, 3) := by decide +kernel
theorem dX9_isAt_32 : decode cX9_isAt 32 = .ok (.iconst 0, 1) := by decide +kernel
theorem dX9_isAt_33 : decode cX9_isAt 33 = .ok (.ireturn, 1) := by decide +kernel
theorem dX9_sign_0 : decode cX9_sign 0 = .ok (.aload_n 0, 1) := by decide +kernel
theorem dX9_sign_1 : decode cX9_sign 1 = .ok (.iload_n 1, 1) := by decide +kernel
theorem dX9_sign_2 : decode cX9_sign 2 = .ok (.iload_n 1, 1) := by decide +kernel
theorem dX9_sign_3 : decode cX9_sign 3 = .ok (.invokevirtual 133, 3) := by decide +kernel
theorem dX9_sign_6 : decode cX9_sign 6 = .ok (.istore_n 2, 1) := by decide +kernel
theorem dX9_sign_7 : decode cX9_sign 7 = .ok (.aload_n 0, 1) := by decide +kernel
theorem dX9_sign_8 : decode cX9_sign 8 = .ok (.dup, 1) := by decide +kernel
theorem dX9_sign_9 : decode cX9_sign 9 = .ok (.getfield 130, 3) := by decide +kernel
theorem dX9_sign_12 : decode cX9_sign 12 = .ok (.iload_n 2, 1) := by decide +kernel
theorem dX9_sign_13 : decode cX9_sign 13 = .ok (.ifCond .eq 7, 3) := by decide +kernel
theorem dX9_sign_16 : decode cX9_sign 16 = .ok (.iconst 1, 1) := by decide +kernel
theorem dX9_sign_17 : decode cX9_sign 17 = .ok (.goto 4, 3) := by decide +kernel
theorem dX9_sign_20 : decode cX9_sign 20 = .ok (.iconst 0, 1) := by decide +kernel
theorem dX9_sign_21 : decode cX9_sign 21 = .ok (.iadd, 1) := by decide +kernel
theorem dX9_sign_22 : decode cX9_sign 22 = .ok (.putfield 130, 3) := by decide +kernel
theorem dX9_sign_25 : decode cX9_sign 25 = .ok (.iload_n 2, 1) := by decide +kernel
theorem dX9_sign_26 : decode cX9_sign 26 = .ok (.ireturn, 1) := by decide +kernel
theorem dX9_fails_0 : decode cX9_fails 0 = .ok (.aload_n 0, 1) := by decide +kernel
theorem dX9_fails_1 : decode cX9_fails 1 = .ok (.iload_n 1, 1) := by decide +kernel
theorem dX9_fails_2 : decode cX9_fails 2 = .ok (.putfield 137, 3) := by decide +kernel
theorem dX9_fails_5 : decode cX9_fails 5 = .ok (.iconst 0, 1) := by decide +kernel
theorem dX9_fails_6 : decode cX9_fails 6 = .ok (.ireturn, 1) := by decide +kernel
theorem dX9_isDouble_0 : decode cX9_isDouble 0 = .ok (.iconst 0, 1) := by decide +kernel
theorem dX9_isDouble_1 : decode cX9_isDouble 1 = .ok (.istore_n 1, 1) := by decide +kernel
theorem dX9_isDouble_2 : decode cX9_isDouble 2 = .ok (.iconst 0, 1) := by decide +kernel
theorem dX9_isDouble_3 : decode cX9_isDouble 3 = .ok (.istore_n 2, 1) := by decide +kernel
theorem dX9_isDouble_4 : decode cX9_isDouble 4 = .ok (.iload_n 2, 1) := by decide +kernel
theorem dX9_isDouble_5 : decode cX9_isDouble 5 = .ok (.aload_n 0, 1) := by decide +kernel
theorem dX9_isDouble_6 : decode cX9_isDouble 6 = .ok (.getfield 140, 3) := by decide +kernel
theorem dX9_isDouble_9 : decode cX9_isDouble 9 = .ok (.if_icmp .ge 109, 3) := by decide +kernel
theorem dX9_isDouble_12 : decode cX9_isDouble 12 = .ok (.iload_n 1, 1) := by decide +kernel
theorem dX9_isDouble_13 : decode cX9_isDouble 13 = .ok (.ifCond .ne 105, 3) := by decide +kernel
theorem dX9_isDouble_16 : decode cX9_isDouble 16 = .ok (.aload_n 0, 1) := by decide +kernel
theorem dX9_isDouble_17 : decode cX9_isDouble 17 = .ok (.getfield 22, 3) := by decide +kernel
theorem dX9_isDouble_20 : decode cX9_isDouble 20 = .ok (.bipush 10, 2) := by decide +kernel
theorem dX9_isDouble_22 : decode cX9_isDouble 22 = .ok (.iload_n 2, 1) := by decide +kernel
theorem dX9_isDouble_23 : decode cX9_isDouble 23 = .ok (.imul, 1) := by decide +kernel
theorem dX9_isDouble_24 : decode cX9_isDouble 24 = .ok (.iaload, 1) := by decide +kernel
theorem dX9_isDouble_25 : decode cX9_isDouble 25 = .ok (.aload_n 0, 1) := by decide +kernel
theorem dX9_isDouble_26 : decode cX9_isDouble 26 = .ok (.getfield 22, 3) := by decide +kernel
theorem dX9_isDouble_29 : decode cX9_isDouble 29 = .ok (.bipush 10, 2) := by decide +kernel
theorem dX9_isDouble_31 : decode cX9_isDouble 31 = .ok (.aload_n 0, 1) := by decide +kernel
theorem dX9_isDouble_32 : decode cX9_isDouble 32 = .ok (.getfield 140, 3) := by decide +kernel
theorem dX9_isDouble_35 : decode cX9_isDouble 35 = .ok (.imul, 1) := by decide +kernel
theorem dX9_isDouble_36 : decode cX9_isDouble 36 = .ok (.iaload, 1) := by decide +kernel
theorem dX9_isDouble_37 : decode cX9_isDouble 37 = .ok (.if_icmp .ne 7, 3) := by decide +kernel
theorem dX9_isDouble_40 : decode cX9_isDouble 40 = .ok (.iconst 1, 1) := by decide +kernel
theorem dX9_isDouble_41 : decode cX9_isDouble 41 = .ok (.goto 4, 3) := by decide +kernel
theorem dX9_isDouble_44 : decode cX9_isDouble 44 = .ok (.iconst 0, 1) := by decide +kernel
theorem dX9_isDouble_45 : decode cX9_isDouble 45 = .ok (.istore_n 1, 1) := by decide +kernel
theorem dX9_isDouble_46 : decode cX9_isDouble 46 = .ok (.iconst 0, 1) := by decide +kernel
theorem dX9_isDouble_47 : decode cX9_isDouble 47 = .ok (.istore_n 3, 1) := by decide +kernel
theorem dX9_isDouble_48 : decode cX9_isDouble 48 = .ok (.iload_n 3, 1) := by decide +kernel
theorem dX9_isDouble_49 : decode cX9_isDouble 49 = .ok (.aload_n 0, 1) := by decide +kernel
theorem dX9_isDouble_50 : decode cX9_isDouble 50 = .ok (.getfield 22, 3) := by decide +kernel
theorem dX9_isDouble_53 : decode cX9_isDouble 53 = .ok (.bipush 10, 2) := by decide +kernel
theorem dX9_isDouble_55 : decode cX9_isDouble 55 = .ok (.aload_n 0, 1) := by decide +kernel
theorem dX9_isDouble_56 : decode cX9_isDouble 56 = .ok (.getfield 140, 3) := by decide +kernel
theorem dX9_isDouble_59 : decode cX9_isDouble 59 = .ok (.imul, 1) := by decide +kernel
theorem dX9_isDouble_60 : decode cX9_isDouble 60 = .ok (.iaload, 1) := by decide +kernel
theorem dX9_isDouble_61 : decode cX9_isDouble 61 = .ok (.if_icmp .ge 51, 3) := by decide +kernel
theorem dX9_isDouble_64 : decode cX9_isDouble 64 = .ok (.iload_n 1, 1) := by decide +kernel
theorem dX9_isDouble_65 : decode cX9_isDouble 65 = .ok (.ifCond .eq 47, 3) := by decide +kernel
theorem dX9_isDouble_68 : decode cX9_isDouble 68 = .ok (.aload_n 0, 1) := by decide +kernel
theorem dX9_isDouble_69 : decode cX9_isDouble 69 = .ok (.getfield 22, 3) := by decide +kernel
theorem dX9_isDouble_72 : decode cX9_isDouble 72 = .ok (.bipush 10, 2) := by decide +kernel
theorem dX9_isDouble_74 : decode cX9_isDouble 74 = .ok (.iload_n 2, 1) := by decide +kernel
theorem dX9_isDouble_75 : decode cX9_isDouble 75 = .ok (.imul, 1) := by decide +kernel
theorem dX9_isDouble_76 : decode cX9_isDouble 76 = .ok (.iconst 2, 1) := by decide +kernel
theorem dX9_isDouble_77 : decode cX9_isDouble 77 = .ok (.iadd, 1) := by decide +kernel
theorem dX9_isDouble_78 : decode cX9_isDouble 78 = .ok (.iload_n 3, 1) := by decide +kernel
theorem dX9_isDouble_79 : decode cX9_isDouble 79 = .ok (.iadd, 1) := by decide +kernel
theorem dX9_isDouble_80 : decode cX9_isDouble 80 = .ok (.iaload, 1) := by decide +kernel
theorem dX9_isDouble_81 : decode cX9_isDouble 81 = .ok (.aload_n 0, 1) := by decide +kernel
theorem dX9_isDouble_82 : decode cX9_isDouble 82 = .ok (.getfield 22, 3) := by decide +kernel
theorem dX9_isDouble_85 : decode cX9_isDouble 85 = .ok (.bipush 10, 2) := by decide +kernel
theorem dX9_isDouble_87 : decode cX9_isDouble 87 = .ok (.aload_n 0, 1) := by decide +kernel
theorem dX9_isDouble_88 : decode cX9_isDouble 88 = .ok (.getfield 140, 3) := by decide +kernel
theorem dX9_isDouble_91 : decode cX9_isDouble 91 = .ok (.imul, 1) := by decide +kernel
theorem dX9_isDouble_92 : decode cX9_isDouble 92 = .ok (.iconst 2, 1) := by decide +kernel
theorem dX9_isDouble_93 : decode cX9_isDouble 93 = .ok (.iadd, 1) := by decide +kernel
theorem dX9_isDouble_94 : decode cX9_isDouble 94 = .ok (.iload_n 3, 1) := by decide +kernel
theorem dX9_isDouble_95 : decode cX9_isDouble 95 = .ok (.iadd, 1) := by decide +kernel
theorem dX9_isDouble_96 : decode cX9_isDouble 96 = .ok (.iaload, 1) := by decide +kernel
theorem dX9_isDouble_97 : decode cX9_isDouble 97 = .ok (.if_icmp .ne 7, 3) := by decide +kernel
theorem dX9_isDouble_100 : decode cX9_isDouble 100 = .ok (.iconst 1, 1) := by decide +kernel
theorem dX9_isDouble_101 : decode cX9_isDouble 101 = .ok (.goto 4, 3) := by decide +kernel
theorem dX9_isDouble_104 : decode cX9_isDouble 104 = .ok (.iconst 0, 1) := by decide +kernel
theorem dX9_isDouble_105 : decode cX9_isDouble 105 = .ok (.istore_n 1, 1) := by decide +kernel
theorem dX9_isDouble_106 : decode cX9_isDouble 106 = .ok (.iinc 3 1, 3) := by decide +kernel
theorem dX9_isDouble_109 : decode cX9_isDouble 109 = .ok (.goto (-61), 3) := by decide +kernel
theorem dX9_isDouble_112 : decode cX9_isDouble 112 = .ok (.iinc 2 1, 3) := by decide +kernel
theorem dX9_isDouble_115 : decode cX9_isDouble 115 = .ok (.goto (-111), 3) := by decide +kernel
theorem dX9_isDouble_118 : decode cX9_isDouble 118 = .ok (.iload_n 1, 1) := by decide +kernel
theorem dX9_isDouble_119 : decode cX9_isDouble 119 = .ok (.ireturn, 1) := by decide +kernel
theorem dX9_readsLetters_0 : decode cX9_readsLetters 0 = .ok (.iconst 0, 1) := by decide +kernel
theorem dX9_readsLetters_1 : decode cX9_readsLetters 1 = .ok (.istore_n 1, 1) := by decide +kernel
theorem dX9_readsLetters_2 : decode cX9_readsLetters 2 = .ok (.aload_n 0, 1) := by decide +kernel
theorem dX9_readsLetters_3 : decode cX9_readsLetters 3 = .ok (.bipush 97, 2) := by decide +kernel
theorem dX9_readsLetters_5 : decode cX9_readsLetters 5 = .ok (.bipush 122, 2) := by decide +kernel
theorem dX9_readsLetters_7 : decode cX9_readsLetters 7 = .ok (.invokevirtual 133, 3) := by decide +kernel
theorem dX9_readsLetters_10 : decode cX9_readsLetters 10 = .ok (.ifCond .eq 53, 3) := by decide +kernel
theorem dX9_readsLetters_13 : decode cX9_readsLetters 13 = .ok (.iload_n 1, 1) := by decide +kernel
theorem dX9_readsLetters_14 : decode cX9_readsLetters 14 = .ok (.bipush 8, 2) := by decide +kernel
theorem dX9_readsLetters_16 : decode cX9_readsLetters 16 = .ok (.if_icmp .ge 47, 3) := by decide +kernel
theorem dX9_readsLetters_19 : decode cX9_readsLetters 19 = .ok (.aload_n 0, 1) := by decide +kernel
theorem dX9_readsLetters_20 : decode cX9_readsLetters 20 = .ok (.getfield 22, 3) := by decide +kernel
theorem dX9_readsLetters_23 : decode cX9_readsLetters 23 = .ok (.bipush 10, 2) := by decide +kernel
theorem dX9_readsLetters_25 : decode cX9_readsLetters 25 = .ok (.aload_n 0, 1) := by decide +kernel
theorem dX9_readsLetters_26 : decode cX9_readsLetters 26 = .ok (.getfield 140, 3) := by decide +kernel
theorem dX9_readsLetters_29 : decode cX9_readsLetters 29 = .ok (.imul, 1) := by decide +kernel
theorem dX9_readsLetters_30 : decode cX9_readsLetters 30 = .ok (.iconst 2, 1) := by decide +kernel
theorem dX9_readsLetters_31 : decode cX9_readsLetters 31 = .ok (.iadd, 1) := by decide +kernel
theorem dX9_readsLetters_32 : decode cX9_readsLetters 32 = .ok (.iload_n 1, 1) := by decide +kernel
theorem dX9_readsLetters_33 : decode cX9_readsLetters 33 = .ok (.iadd, 1) := by decide +kernel
theorem dX9_readsLetters_34 : decode cX9_readsLetters 34 = .ok (.aload_n 0, 1) := by decide +kernel
theorem dX9_readsLetters_35 : decode cX9_readsLetters 35 = .ok (.getfield 19, 3) := by decide +kernel
theorem dX9_readsLetters_38 : decode cX9_readsLetters 38 = .ok (.aload_n 0, 1) := by decide +kernel
theorem dX9_readsLetters_39 : decode cX9_readsLetters 39 = .ok (.getfield 130, 3) := by decide +kernel
theorem dX9_readsLetters_42 : decode cX9_readsLetters 42 = .ok (.iaload, 1) := by decide +kernel
theorem dX9_readsLetters_43 : decode cX9_readsLetters 43 = .ok (.bipush 97, 2) := by decide +kernel
theorem dX9_readsLetters_45 : decode cX9_readsLetters 45 = .ok (.isub, 1) := by decide +kernel
theorem dX9_readsLetters_46 : decode cX9_readsLetters 46 = .ok (.iastore, 1) := by decide +kernel
theorem dX9_readsLetters_47 : decode cX9_readsLetters 47 = .ok (.iinc 1 1, 3) := by decide +kernel
theorem dX9_readsLetters_50 : decode cX9_readsLetters 50 = .ok (.aload_n 0, 1) := by decide +kernel
theorem dX9_readsLetters_51 : decode cX9_readsLetters 51 = .ok (.dup, 1) := by decide +kernel
theorem dX9_readsLetters_52 : decode cX9_readsLetters 52 = .ok (.getfield 130, 3) := by decide +kernel
theorem dX9_readsLetters_55 : decode cX9_readsLetters 55 = .ok (.iconst 1, 1) := by decide +kernel
theorem dX9_readsLetters_56 : decode cX9_readsLetters 56 = .ok (.iadd, 1) := by decide +kernel
theorem dX9_readsLetters_57 : decode cX9_readsLetters 57 = .ok (.putfield 130, 3) := by decide +kernel
theorem dX9_readsLetters_60 : decode cX9_readsLetters 60 = .ok (.goto (-58), 3) := by decide +kernel
theorem dX9_readsLetters_63 : decode cX9_readsLetters 63 = .ok (.aload_n 0, 1) := by decide +kernel
theorem dX9_readsLetters_64 : decode cX9_readsLetters 64 = .ok (.getfield 22, 3) := by decide +kernel
theorem dX9_readsLetters_67 : decode cX9_readsLetters 67 = .ok (.bipush 10, 2) := by decide +kernel
theorem dX9_readsLetters_69 : decode cX9_readsLetters 69 = .ok (.aload_n 0, 1) := by decide +kernel
theorem dX9_readsLetters_70 : decode cX9_readsLetters 70 = .ok (.getfield 140, 3) := by decide +kernel
theorem dX9_readsLetters_73 : decode cX9_readsLetters 73 = .ok (.imul, 1) := by decide +kernel
theorem dX9_readsLetters_74 : decode cX9_readsLetters 74 = .ok (.iload_n 1, 1) := by decide +kernel
theorem dX9_readsLetters_75 : decode cX9_readsLetters 75 = .ok (.iastore, 1) := by decide +kernel
theorem dX9_readsLetters_76 : decode cX9_readsLetters 76 = .ok (.iload_n 1, 1) := by decide +kernel
theorem dX9_readsLetters_77 : decode cX9_readsLetters 77 = .ok (.iconst 1, 1) := by decide +kernel
theorem dX9_readsLetters_78 : decode cX9_readsLetters 78 = .ok (.if_icmp .gt 11, 3) := by decide +kernel
theorem dX9_readsLetters_81 : decode cX9_readsLetters 81 = .ok (.aload_n 0, 1) := by decide +kernel
theorem dX9_readsLetters_82 : decode cX9_readsLetters 82 = .ok (.iconst 1, 1) := by decide +kernel
theorem dX9_readsLetters_83 : decode cX9_readsLetters 83 = .ok (.invokevirtual 143, 3) := by decide +kernel
theorem dX9_readsLetters_86 : decode cX9_readsLetters 86 = .ok (.ifCond .eq 7, 3) := by decide +kernel
theorem dX9_readsLetters_89 : decode cX9_readsLetters 89 = .ok (.iconst 1, 1) := by decide +kernel
theorem dX9_readsLetters_90 : decode cX9_readsLetters 90 = .ok (.goto 4, 3) := by decide +kernel
theorem dX9_readsLetters_93 : decode cX9_readsLetters 93 = .ok (.iconst 0, 1) := by decide +kernel
theorem dX9_readsLetters_94 : decode cX9_readsLetters 94 = .ok (.ireturn, 1) := by decide +kernel
theorem dX9_readsWeight_0 : decode cX9_readsWeight 0 = .ok (.aload_n 0, 1) := by decide +kernel
theorem dX9_readsWeight_1 : decode cX9_readsWeight 1 = .ok (.bipush 49, 2) := by decide +kernel
theorem dX9_readsWeight_3 : decode cX9_readsWeight 3 = .ok (.bipush 57, 2) := by decide +kernel
theorem dX9_readsWeight_5 : decode cX9_readsWeight 5 = .ok (.invokevirtual 133, 3) := by decide +kernel
theorem dX9_readsWeight_8 : decode cX9_readsWeight 8 = .ok (.ifCond .ne 9, 3) := by decide +kernel
theorem dX9_readsWeight_11 : decode cX9_readsWeight 11 = .ok (.aload_n 0, 1) := by decide +kernel
theorem dX9_readsWeight_12 : decode cX9_readsWeight 12 = .ok (.iconst 1, 1) := by decide +kernel
theorem dX9_readsWeight_13 : decode cX9_readsWeight 13 = .ok (.invokevirtual 143, 3) := by decide +kernel
theorem dX9_readsWeight_16 : decode cX9_readsWeight 16 = .ok (.ireturn, 1) := by decide +kernel
theorem dX9_readsWeight_17 : decode cX9_readsWeight 17 = .ok (.aload_n 0, 1) := by decide +kernel
theorem dX9_readsWeight_18 : decode cX9_readsWeight 18 = .ok (.getfield 19, 3) := by decide +kernel
theorem dX9_readsWeight_21 : decode cX9_readsWeight 21 = .ok (.aload_n 0, 1) := by decide +kernel
theorem dX9_readsWeight_22 : decode cX9_readsWeight 22 = .ok (.getfield 130, 3) := by decide +kernel
theorem dX9_readsWeight_25 : decode cX9_readsWeight 25 = .ok (.iaload, 1) := by decide +kernel
theorem dX9_readsWeight_26 : decode cX9_readsWeight 26 = .ok (.bipush 48, 2) := by decide +kernel
theorem dX9_readsWeight_28 : decode cX9_readsWeight 28 = .ok (.isub, 1) := by decide +kernel
theorem dX9_readsWeight_29 : decode cX9_readsWeight 29 = .ok (.istore_n 1, 1) := by decide +kernel
theorem dX9_readsWeight_30 : decode cX9_readsWeight 30 = .ok (.aload_n 0, 1) := by decide +kernel
theorem dX9_readsWeight_31 : decode cX9_readsWeight 31 = .ok (.dup, 1) := by decide +kernel
theorem dX9_readsWeight_32 : decode cX9_readsWeight 32 = .ok (.getfield 130, 3) := by decide +kernel
theorem dX9_readsWeight_35 : decode cX9_readsWeight 35 = .ok (.iconst 1, 1) := by decide +kernel
theorem dX9_readsWeight_36 : decode cX9_readsWeight 36 = .ok (.iadd, 1) := by decide +kernel
theorem dX9_readsWeight_37 : decode cX9_readsWeight 37 = .ok (.putfield 130, 3) := by decide +kernel
theorem dX9_readsWeight_40 : decode cX9_readsWeight 40 = .ok (.aload_n 0, 1) := by decide +kernel
theorem dX9_readsWeight_41 : decode cX9_readsWeight 41 = .ok (.bipush 48, 2) := by decide +kernel
theorem dX9_readsWeight_43 : decode cX9_readsWeight 43 = .ok (.bipush 57, 2) := by decide +kernel
theorem dX9_readsWeight_45 : decode cX9_readsWeight 45 = .ok (.invokevirtual 133, 3) := by decide +kernel
theorem dX9_readsWeight_48 : decode cX9_readsWeight 48 = .ok (.ifCond .eq 31, 3) := by decide +kernel
theorem dX9_readsWeight_51 : decode cX9_readsWeight 51 = .ok (.bipush 10, 2) := by decide +kernel
theorem dX9_readsWeight_53 : decode cX9_readsWeight 53 = .ok (.iload_n 1, 1) := by decide +kernel
theorem dX9_readsWeight_54 : decode cX9_readsWeight 54 = .ok (.imul, 1) := by decide +kernel
theorem dX9_readsWeight_55 : decode cX9_readsWeight 55 = .ok (.aload_n 0, 1) := by decide +kernel
theorem dX9_readsWeight_56 : decode cX9_readsWeight 56 = .ok (.getfield 19, 3) := by decide +kernel
theorem dX9_readsWeight_59 : decode cX9_readsWeight 59 = .ok (.aload_n 0, 1) := by decide +kernel
theorem dX9_readsWeight_60 : decode cX9_readsWeight 60 = .ok (.getfield 130, 3) := by decide +kernel
theorem dX9_readsWeight_63 : decode cX9_readsWeight 63 = .ok (.iaload, 1) := by decide +kernel
theorem dX9_readsWeight_64 : decode cX9_readsWeight 64 = .ok (.iadd, 1) := by decide +kernel
theorem dX9_readsWeight_65 : decode cX9_readsWeight 65 = .ok (.bipush 48, 2) := by decide +kernel
theorem dX9_readsWeight_67 : decode cX9_readsWeight 67 = .ok (.isub, 1) := by decide +kernel
theorem dX9_readsWeight_68 : decode cX9_readsWeight 68 = .ok (.istore_n 1, 1) := by decide +kernel
theorem dX9_readsWeight_69 : decode cX9_readsWeight 69 = .ok (.aload_n 0, 1) := by decide +kernel
theorem dX9_readsWeight_70 : decode cX9_readsWeight 70 = .ok (.dup, 1) := by decide +kernel
theorem dX9_readsWeight_71 : decode cX9_readsWeight 71 = .ok (.getfield 130, 3) := by decide +kernel
theorem dX9_readsWeight_74 : decode cX9_readsWeight 74 = .ok (.iconst 1, 1) := by decide +kernel
theorem dX9_readsWeight_75 : decode cX9_readsWeight 75 = .ok (.iadd, 1) := by decide +kernel
theorem dX9_readsWeight_76 : decode cX9_readsWeight 76 = .ok (.putfield 130, 3) := by decide +kernel
theorem dX9_readsWeight_79 : decode cX9_readsWeight 79 = .ok (.aload_n 0, 1) := by decide +kernel
theorem dX9_readsWeight_80 : decode cX9_readsWeight 80 = .ok (.getfield 22, 3) := by decide +kernel
theorem dX9_readsWeight_83 : decode cX9_readsWeight 83 = .ok (.bipush 10, 2) := by decide +kernel
theorem dX9_readsWeight_85 : decode cX9_readsWeight 85 = .ok (.aload_n 0, 1) := by decide +kernel
theorem dX9_readsWeight_86 : decode cX9_readsWeight 86 = .ok (.getfield 140, 3) := by decide +kernel
theorem dX9_readsWeight_89 : decode cX9_readsWeight 89 = .ok (.imul, 1) := by decide +kernel
theorem dX9_readsWeight_90 : decode cX9_readsWeight 90 = .ok (.iconst 1, 1) := by decide +kernel
theorem dX9_readsWeight_91 : decode cX9_readsWeight 91 = .ok (.iadd, 1) := by decide +kernel
theorem dX9_readsWeight_92 : decode cX9_readsWeight 92 = .ok (.iload_n 1, 1) := by decide +kernel
theorem dX9_readsWeight_93 : decode cX9_readsWeight 93 = .ok (.iastore, 1) := by decide +kernel
theorem dX9_readsWeight_94 : decode cX9_readsWeight 94 = .ok (.iconst 1, 1) := by decide +kernel
theorem dX9_readsWeight_95 : decode cX9_readsWeight 95 = .ok (.ireturn, 1) := by decide +kernel
theorem dX9_readsWord_0 : decode cX9_readsWord 0 = .ok (.aload_n 0, 1) := by decide +kernel
theorem dX9_readsWord_1 : decode cX9_readsWord 1 = .ok (.getfield 130, 3) := by decide +kernel
theorem dX9_readsWord_4 : decode cX9_readsWord 4 = .ok (.istore_n 1, 1) := by decide +kernel
theorem dX9_readsWord_5 : decode cX9_readsWord 5 = .ok (.aload_n 0, 1) := by decide +kernel
theorem dX9_readsWord_6 : decode cX9_readsWord 6 = .ok (.getfield 140, 3) := by decide +kernel
theorem dX9_readsWord_9 : decode cX9_readsWord 9 = .ok (.bipush 16, 2) := by decide +kernel
theorem dX9_readsWord_11 : decode cX9_readsWord 11 = .ok (.if_icmp .ne 24, 3) := by decide +kernel
theorem dX9_readsWord_14 : decode cX9_readsWord 14 = .ok (.aload_n 0, 1) := by decide +kernel
theorem dX9_readsWord_15 : decode cX9_readsWord 15 = .ok (.aload_n 0, 1) := by decide +kernel
theorem dX9_readsWord_16 : decode cX9_readsWord 16 = .ok (.bipush 97, 2) := by decide +kernel
theorem dX9_readsWord_18 : decode cX9_readsWord 18 = .ok (.bipush 122, 2) := by decide +kernel
theorem dX9_readsWord_20 : decode cX9_readsWord 20 = .ok (.invokevirtual 133, 3) := by decide +kernel
theorem dX9_readsWord_23 : decode cX9_readsWord 23 = .ok (.ifCond .eq 7, 3) := by decide +kernel
theorem dX9_readsWord_26 : decode cX9_readsWord 26 = .ok (.iconst 4, 1) := by decide +kernel
theorem dX9_readsWord_27 : decode cX9_readsWord 27 = .ok (.goto 4, 3) := by decide +kernel
theorem dX9_readsWord_30 : decode cX9_readsWord 30 = .ok (.iconst 1, 1) := by decide +kernel
theorem dX9_readsWord_31 : decode cX9_readsWord 31 = .ok (.invokevirtual 143, 3) := by decide +kernel
theorem dX9_readsWord_34 : decode cX9_readsWord 34 = .ok (.ireturn, 1) := by decide +kernel
theorem dX9_readsWord_35 : decode cX9_readsWord 35 = .ok (.aload_n 0, 1) := by decide +kernel
theorem dX9_readsWord_36 : decode cX9_readsWord 36 = .ok (.invokevirtual 146, 3) := by decide +kernel
theorem dX9_readsWord_39 : decode cX9_readsWord 39 = .ok (.ifCond .ne 5, 3) := by decide +kernel
theorem dX9_readsWord_42 : decode cX9_readsWord 42 = .ok (.iconst 0, 1) := by decide +kernel
theorem dX9_readsWord_43 : decode cX9_readsWord 43 = .ok (.ireturn, 1) := by decide +kernel
theorem dX9_readsWord_44 : decode cX9_readsWord 44 = .ok (.aload_n 0, 1) := by decide +kernel
theorem dX9_readsWord_45 : decode cX9_readsWord 45 = .ok (.bipush 97, 2) := by decide +kernel
theorem dX9_readsWord_47 : decode cX9_readsWord 47 = .ok (.bipush 122, 2) := by decide +kernel
theorem dX9_readsWord_49 : decode cX9_readsWord 49 = .ok (.invokevirtual 133, 3) := by decide +kernel
theorem dX9_readsWord_52 : decode cX9_readsWord 52 = .ok (.ifCond .eq 9, 3) := by decide +kernel
theorem dX9_readsWord_55 : decode cX9_readsWord 55 = .ok (.aload_n 0, 1) := by decide +kernel
theorem dX9_readsWord_56 : decode cX9_readsWord 56 = .ok (.iconst 2, 1) := by decide +kernel
theorem dX9_readsWord_57 : decode cX9_readsWord 57 = .ok (.invokevirtual 143, 3) := by decide +kernel
theorem dX9_readsWord_60 : decode cX9_readsWord 60 = .ok (.ireturn, 1) := by decide +kernel
theorem dX9_readsWord_61 : decode cX9_readsWord 61 = .ok (.aload_n 0, 1) := by decide +kernel
theorem dX9_readsWord_62 : decode cX9_readsWord 62 = .ok (.bipush 42, 2) := by decide +kernel
theorem dX9_readsWord_64 : decode cX9_readsWord 64 = .ok (.invokevirtual 149, 3) := by decide +kernel
theorem dX9_readsWord_67 : decode cX9_readsWord 67 = .ok (.ifCond .ne 9, 3) := by decide +kernel
theorem dX9_readsWord_70 : decode cX9_readsWord 70 = .ok (.aload_n 0, 1) := by decide +kernel
theorem dX9_readsWord_71 : decode cX9_readsWord 71 = .ok (.iconst 1, 1) := by decide +kernel
theorem dX9_readsWord_72 : decode cX9_readsWord 72 = .ok (.invokevirtual 143, 3) := by decide +kernel
theorem dX9_readsWord_75 : decode cX9_readsWord 75 = .ok (.ireturn, 1) := by decide +kernel
theorem dX9_readsWord_76 : decode cX9_readsWord 76 = .ok (.aload_n 0, 1) := by decide +kernel
theorem dX9_readsWord_77 : decode cX9_readsWord 77 = .ok (.invokevirtual 152, 3) := by decide +kernel
theorem dX9_readsWord_80 : decode cX9_readsWord 80 = .ok (.ifCond .ne 5, 3) := by decide +kernel
theorem dX9_readsWord_83 : decode cX9_readsWord 83 = .ok (.iconst 0, 1) := by decide +kernel
theorem dX9_readsWord_84 : decode cX9_readsWord 84 = .ok (.ireturn, 1) := by decide +kernel
theorem dX9_readsWord_85 : decode cX9_readsWord 85 = .ok (.aload_n 0, 1) := by decide +kernel
theorem dX9_readsWord_86 : decode cX9_readsWord 86 = .ok (.bipush 59, 2) := by decide +kernel
theorem dX9_readsWord_88 : decode cX9_readsWord 88 = .ok (.invokevirtual 149, 3) := by decide +kernel
theorem dX9_readsWord_91 : decode cX9_readsWord 91 = .ok (.ifCond .ne 9, 3) := by decide +kernel
theorem dX9_readsWord_94 : decode cX9_readsWord 94 = .ok (.aload_n 0, 1) := by decide +kernel
theorem dX9_readsWord_95 : decode cX9_readsWord 95 = .ok (.iconst 1, 1) := by decide +kernel
theorem dX9_readsWord_96 : decode cX9_readsWord 96 = .ok (.invokevirtual 143, 3) := by decide +kernel
theorem dX9_readsWord_99 : decode cX9_readsWord 99 = .ok (.ireturn, 1) := by decide +kernel
theorem dX9_readsWord_100 : decode cX9_readsWord 100 = .ok (.aload_n 0, 1) := by decide +kernel
theorem dX9_readsWord_101 : decode cX9_readsWord 101 = .ok (.invokevirtual 155, 3) := by decide +kernel
theorem dX9_readsWord_104 : decode cX9_readsWord 104 = .ok (.ifCond .eq 14, 3) := by decide +kernel
theorem dX9_readsWord_107 : decode cX9_readsWord 107 = .ok (.aload_n 0, 1) := by decide +kernel
theorem dX9_readsWord_108 : decode cX9_readsWord 108 = .ok (.iload_n 1, 1) := by decide +kernel
theorem dX9_readsWord_109 : decode cX9_readsWord 109 = .ok (.putfield 130, 3) := by decide +kernel
theorem dX9_readsWord_112 : decode cX9_readsWord 112 = .ok (.aload_n 0, 1) := by decide +kernel
theorem dX9_readsWord_113 : decode cX9_readsWord 113 = .ok (.iconst 3, 1) := by decide +kernel
theorem dX9_readsWord_114 : decode cX9_readsWord 114 = .ok (.invokevirtual 143, 3) := by decide +kernel
theorem dX9_readsWord_117 : decode cX9_readsWord 117 = .ok (.ireturn, 1) := by decide +kernel
theorem dX9_readsWord_118 : decode cX9_readsWord 118 = .ok (.aload_n 0, 1) := by decide +kernel
theorem dX9_readsWord_119 : decode cX9_readsWord 119 = .ok (.dup, 1) := by decide +kernel
theorem dX9_readsWord_120 : decode cX9_readsWord 120 = .ok (.getfield 140, 3) := by decide +kernel
theorem dX9_readsWord_123 : decode cX9_readsWord 123 = .ok (.iconst 1, 1) := by decide +kernel
theorem dX9_readsWord_124 : decode cX9_readsWord 124 = .ok (.iadd, 1) := by decide +kernel
theorem dX9_readsWord_125 : decode cX9_readsWord 125 = .ok (.putfield 140, 3) := by decide +kernel
theorem dX9_readsWord_128 : decode cX9_readsWord 128 = .ok (.iconst 1, 1) := by decide +kernel
theorem dX9_readsWord_129 : decode cX9_readsWord 129 = .ok (.ireturn, 1) := by decide +kernel
theorem dX9_isRight_0 : decode cX9_isRight 0 = .ok (.aload_n 0, 1) := by decide +kernel
theorem dX9_isRight_1 : decode cX9_isRight 1 = .ok (.iconst 0, 1) := by decide +kernel
theorem dX9_isRight_2 : decode cX9_isRight 2 = .ok (.putfield 130, 3) := by decide +kernel
theorem dX9_isRight_5 : decode cX9_isRight 5 = .ok (.aload_n 0, 1) := by decide +kernel
theorem dX9_isRight_6 : decode cX9_isRight 6 = .ok (.iconst 0, 1) := by decide +kernel
theorem dX9_isRight_7 : decode cX9_isRight 7 = .ok (.putfield 140, 3) := by decide +kernel
theorem dX9_isRight_10 : decode cX9_isRight 10 = .ok (.aload_n 0, 1) := by decide +kernel
theorem dX9_isRight_11 : decode cX9_isRight 11 = .ok (.invokevirtual 158, 3) := by decide +kernel
theorem dX9_isRight_14 : decode cX9_isRight 14 = .ok (.istore_n 1, 1) := by decide +kernel
theorem dX9_isRight_15 : decode cX9_isRight 15 = .ok (.iload_n 1, 1) := by decide +kernel
theorem dX9_isRight_16 : decode cX9_isRight 16 = .ok (.ifCond .eq 22, 3) := by decide +kernel
theorem dX9_isRight_19 : decode cX9_isRight 19 = .ok (.aload_n 0, 1) := by decide +kernel
theorem dX9_isRight_20 : decode cX9_isRight 20 = .ok (.getfield 130, 3) := by decide +kernel
theorem dX9_isRight_23 : decode cX9_isRight 23 = .ok (.aload_n 0, 1) := by decide +kernel
theorem dX9_isRight_24 : decode cX9_isRight 24 = .ok (.getfield 119, 3) := by decide +kernel
theorem dX9_isRight_27 : decode cX9_isRight 27 = .ok (.if_icmp .ge 11, 3) := by decide +kernel
theorem dX9_isRight_30 : decode cX9_isRight 30 = .ok (.aload_n 0, 1) := by decide +kernel
theorem dX9_isRight_31 : decode cX9_isRight 31 = .ok (.invokevirtual 158, 3) := by decide +kernel
theorem dX9_isRight_34 : decode cX9_isRight 34 = .ok (.istore_n 1, 1) := by decide +kernel
theorem dX9_isRight_35 : decode cX9_isRight 35 = .ok (.goto (-20), 3) := by decide +kernel
theorem dX9_isRight_38 : decode cX9_isRight 38 = .ok (.iload_n 1, 1) := by decide +kernel
theorem dX9_isRight_39 : decode cX9_isRight 39 = .ok (.ireturn, 1) := by decide +kernel
theorem dX9_fault_0 : decode cX9_fault 0 = .ok (.iload_n 1, 1) := by decide +kernel
theorem dX9_fault_1 : decode cX9_fault 1 = .ok (.iconst 0, 1) := by decide +kernel
theorem dX9_fault_2 : decode cX9_fault 2 = .ok (.iconst 1, 1) := by decide +kernel
theorem dX9_fault_3 : decode cX9_fault 3 = .ok (.invokestatic 40, 3) := by decide +kernel
theorem dX9_fault_6 : decode cX9_fault 6 = .ok (.ifCond .ne 5, 3) := by decide +kernel
theorem dX9_fault_9 : decode cX9_fault 9 = .ok (.iconst (-1), 1) := by decide +kernel
theorem dX9_fault_10 : decode cX9_fault 10 = .ok (.ireturn, 1) := by decide +kernel
theorem dX9_fault_11 : decode cX9_fault 11 = .ok (.aload_n 0, 1) := by decide +kernel
theorem dX9_fault_12 : decode cX9_fault 12 = .ok (.invokevirtual 161, 3) := by decide +kernel
theorem dX9_fault_15 : decode cX9_fault 15 = .ok (.ifCond .eq 8, 3) := by decide +kernel
theorem dX9_fault_18 : decode cX9_fault 18 = .ok (.bipush (-4), 2) := by decide +kernel
theorem dX9_fault_20 : decode cX9_fault 20 = .ok (.goto 18, 3) := by decide +kernel
theorem dX9_fault_23 : decode cX9_fault 23 = .ok (.iload_n 1, 1) := by decide +kernel
theorem dX9_fault_24 : decode cX9_fault 24 = .ok (.ifCond .ne 10, 3) := by decide +kernel
theorem dX9_fault_27 : decode cX9_fault 27 = .ok (.aload_n 0, 1) := by decide +kernel
theorem dX9_fault_28 : decode cX9_fault 28 = .ok (.getfield 130, 3) := by decide +kernel
theorem dX9_fault_31 : decode cX9_fault 31 = .ok (.goto 7, 3) := by decide +kernel
theorem dX9_fault_34 : decode cX9_fault 34 = .ok (.aload_n 0, 1) := by decide +kernel
theorem dX9_fault_35 : decode cX9_fault 35 = .ok (.getfield 137, 3) := by decide +kernel
theorem dX9_fault_38 : decode cX9_fault 38 = .ok (.ireturn, 1) := by decide +kernel
theorem dX9_read_0 : decode cX9_read 0 = .ok (.aload_n 0, 1) := by decide +kernel
theorem dX9_read_1 : decode cX9_read 1 = .ok (.invokevirtual 44, 3) := by decide +kernel
theorem dX9_read_4 : decode cX9_read 4 = .ok (.ifCond .ne 10, 3) := by decide +kernel
theorem dX9_read_7 : decode cX9_read 7 = .ok (.aload_n 0, 1) := by decide +kernel
theorem dX9_read_8 : decode cX9_read 8 = .ok (.invokevirtual 161, 3) := by decide +kernel
theorem dX9_read_11 : decode cX9_read 11 = .ok (.ifCond .ne 6, 3) := by decide +kernel
theorem dX9_read_14 : decode cX9_read 14 = .ok (.bipush (-2), 2) := by decide +kernel
theorem dX9_read_16 : decode cX9_read 16 = .ok (.ireturn, 1) := by decide +kernel
theorem dX9_read_17 : decode cX9_read 17 = .ok (.aload_n 0, 1) := by decide +kernel
theorem dX9_read_18 : decode cX9_read 18 = .ok (.invokevirtual 48, 3) := by decide +kernel
theorem dX9_read_21 : decode cX9_read 21 = .ok (.aload_n 0, 1) := by decide +kernel
theorem dX9_read_22 : decode cX9_read 22 = .ok (.getfield 7, 3) := by decide +kernel
theorem dX9_read_25 : decode cX9_read 25 = .ok (.iconst 0, 1) := by decide +kernel
theorem dX9_read_26 : decode cX9_read 26 = .ok (.aload_n 0, 1) := by decide +kernel
theorem dX9_read_27 : decode cX9_read 27 = .ok (.getfield 140, 3) := by decide +kernel
theorem dX9_read_30 : decode cX9_read 30 = .ok (.iastore, 1) := by decide +kernel
theorem dX9_read_31 : decode cX9_read 31 = .ok (.iconst 0, 1) := by decide +kernel
theorem dX9_read_32 : decode cX9_read 32 = .ok (.istore_n 1, 1) := by decide +kernel
theorem dX9_read_33 : decode cX9_read 33 = .ok (.iload_n 1, 1) := by decide +kernel
theorem dX9_read_34 : decode cX9_read 34 = .ok (.aload_n 0, 1) := by decide +kernel
theorem dX9_read_35 : decode cX9_read 35 = .ok (.getfield 140, 3) := by decide +kernel
theorem dX9_read_38 : decode cX9_read 38 = .ok (.if_icmp .ge 122, 3) := by decide +kernel
theorem dX9_read_41 : decode cX9_read 41 = .ok (.aload_n 0, 1) := by decide +kernel
theorem dX9_read_42 : decode cX9_read 42 = .ok (.getfield 7, 3) := by decide +kernel
theorem dX9_read_45 : decode cX9_read 45 = .ok (.bipush 16, 2) := by decide +kernel
theorem dX9_read_47 : decode cX9_read 47 = .ok (.bipush 11, 2) := by decide +kernel
theorem dX9_read_49 : decode cX9_read 49 = .ok (.iload_n 1, 1) := by decide +kernel
theorem dX9_read_50 : decode cX9_read 50 = .ok (.imul, 1) := by decide +kernel
theorem dX9_read_51 : decode cX9_read 51 = .ok (.iadd, 1) := by decide +kernel
theorem dX9_read_52 : decode cX9_read 52 = .ok (.iconst 0, 1) := by decide +kernel
theorem dX9_read_53 : decode cX9_read 53 = .ok (.iadd, 1) := by decide +kernel
theorem dX9_read_54 : decode cX9_read 54 = .ok (.aload_n 0, 1) := by decide +kernel
theorem dX9_read_55 : decode cX9_read 55 = .ok (.getfield 22, 3) := by decide +kernel
theorem dX9_read_58 : decode cX9_read 58 = .ok (.bipush 10, 2) := by decide +kernel
theorem dX9_read_60 : decode cX9_read 60 = .ok (.iload_n 1, 1) := by decide +kernel
theorem dX9_read_61 : decode cX9_read 61 = .ok (.imul, 1) := by decide +kernel
theorem dX9_read_62 : decode cX9_read 62 = .ok (.iaload, 1) := by decide +kernel
theorem dX9_read_63 : decode cX9_read 63 = .ok (.iastore, 1) := by decide +kernel
theorem dX9_read_64 : decode cX9_read 64 = .ok (.aload_n 0, 1) := by decide +kernel
theorem dX9_read_65 : decode cX9_read 65 = .ok (.getfield 7, 3) := by decide +kernel
theorem dX9_read_68 : decode cX9_read 68 = .ok (.bipush 16, 2) := by decide +kernel
theorem dX9_read_70 : decode cX9_read 70 = .ok (.bipush 11, 2) := by decide +kernel
theorem dX9_read_72 : decode cX9_read 72 = .ok (.iload_n 1, 1) := by decide +kernel
theorem dX9_read_73 : decode cX9_read 73 = .ok (.imul, 1) := by decide +kernel
theorem dX9_read_74 : decode cX9_read 74 = .ok (.iadd, 1) := by decide +kernel
theorem dX9_read_75 : decode cX9_read 75 = .ok (.iconst 1, 1) := by decide +kernel
theorem dX9_read_76 : decode cX9_read 76 = .ok (.iadd, 1) := by decide +kernel
theorem dX9_read_77 : decode cX9_read 77 = .ok (.aload_n 0, 1) := by decide +kernel
theorem dX9_read_78 : decode cX9_read 78 = .ok (.getfield 22, 3) := by decide +kernel
theorem dX9_read_81 : decode cX9_read 81 = .ok (.bipush 10, 2) := by decide +kernel
theorem dX9_read_83 : decode cX9_read 83 = .ok (.iload_n 1, 1) := by decide +kernel
theorem dX9_read_84 : decode cX9_read 84 = .ok (.imul, 1) := by decide +kernel
theorem dX9_read_85 : decode cX9_read 85 = .ok (.iconst 1, 1) := by decide +kernel
theorem dX9_read_86 : decode cX9_read 86 = .ok (.iadd, 1) := by decide +kernel
theorem dX9_read_87 : decode cX9_read 87 = .ok (.iaload, 1) := by decide +kernel
theorem dX9_read_88 : decode cX9_read 88 = .ok (.iastore, 1) := by decide +kernel
theorem dX9_read_89 : decode cX9_read 89 = .ok (.aload_n 0, 1) := by decide +kernel
theorem dX9_read_90 : decode cX9_read 90 = .ok (.getfield 7, 3) := by decide +kernel
theorem dX9_read_93 : decode cX9_read 93 = .ok (.bipush 16, 2) := by decide +kernel
theorem dX9_read_95 : decode cX9_read 95 = .ok (.bipush 11, 2) := by decide +kernel
theorem dX9_read_97 : decode cX9_read 97 = .ok (.iload_n 1, 1) := by decide +kernel
theorem dX9_read_98 : decode cX9_read 98 = .ok (.imul, 1) := by decide +kernel
theorem dX9_read_99 : decode cX9_read 99 = .ok (.iadd, 1) := by decide +kernel
theorem dX9_read_100 : decode cX9_read 100 = .ok (.iconst 2, 1) := by decide +kernel
theorem dX9_read_101 : decode cX9_read 101 = .ok (.iadd, 1) := by decide +kernel
theorem dX9_read_102 : decode cX9_read 102 = .ok (.iconst 0, 1) := by decide +kernel
theorem dX9_read_103 : decode cX9_read 103 = .ok (.iastore, 1) := by decide +kernel
theorem dX9_read_104 : decode cX9_read 104 = .ok (.iconst 0, 1) := by decide +kernel
theorem dX9_read_105 : decode cX9_read 105 = .ok (.istore_n 2, 1) := by decide +kernel
theorem dX9_read_106 : decode cX9_read 106 = .ok (.iload_n 2, 1) := by decide +kernel
theorem dX9_read_107 : decode cX9_read 107 = .ok (.aload_n 0, 1) := by decide +kernel
theorem dX9_read_108 : decode cX9_read 108 = .ok (.getfield 22, 3) := by decide +kernel
theorem dX9_read_111 : decode cX9_read 111 = .ok (.bipush 10, 2) := by decide +kernel
theorem dX9_read_113 : decode cX9_read 113 = .ok (.iload_n 1, 1) := by decide +kernel
theorem dX9_read_114 : decode cX9_read 114 = .ok (.imul, 1) := by decide +kernel
theorem dX9_read_115 : decode cX9_read 115 = .ok (.iaload, 1) := by decide +kernel
theorem dX9_read_116 : decode cX9_read 116 = .ok (.if_icmp .ge 38, 3) := by decide +kernel
theorem dX9_read_119 : decode cX9_read 119 = .ok (.aload_n 0, 1) := by decide +kernel
theorem dX9_read_120 : decode cX9_read 120 = .ok (.getfield 7, 3) := by decide +kernel
theorem dX9_read_123 : decode cX9_read 123 = .ok (.bipush 16, 2) := by decide +kernel
theorem dX9_read_125 : decode cX9_read 125 = .ok (.bipush 11, 2) := by decide +kernel
theorem dX9_read_127 : decode cX9_read 127 = .ok (.iload_n 1, 1) := by decide +kernel
theorem dX9_read_128 : decode cX9_read 128 = .ok (.imul, 1) := by decide +kernel
theorem dX9_read_129 : decode cX9_read 129 = .ok (.iadd, 1) := by decide +kernel
theorem dX9_read_130 : decode cX9_read 130 = .ok (.iconst 3, 1) := by decide +kernel
theorem dX9_read_131 : decode cX9_read 131 = .ok (.iadd, 1) := by decide +kernel
theorem dX9_read_132 : decode cX9_read 132 = .ok (.iload_n 2, 1) := by decide +kernel
theorem dX9_read_133 : decode cX9_read 133 = .ok (.iadd, 1) := by decide +kernel
theorem dX9_read_134 : decode cX9_read 134 = .ok (.aload_n 0, 1) := by decide +kernel
theorem dX9_read_135 : decode cX9_read 135 = .ok (.getfield 22, 3) := by decide +kernel
theorem dX9_read_138 : decode cX9_read 138 = .ok (.bipush 10, 2) := by decide +kernel
theorem dX9_read_140 : decode cX9_read 140 = .ok (.iload_n 1, 1) := by decide +kernel
theorem dX9_read_141 : decode cX9_read 141 = .ok (.imul, 1) := by decide +kernel
theorem dX9_read_142 : decode cX9_read 142 = .ok (.iconst 2, 1) := by decide +kernel
theorem dX9_read_143 : decode cX9_read 143 = .ok (.iadd, 1) := by decide +kernel
theorem dX9_read_144 : decode cX9_read 144 = .ok (.iload_n 2, 1) := by decide +kernel
theorem dX9_read_145 : decode cX9_read 145 = .ok (.iadd, 1) := by decide +kernel
theorem dX9_read_146 : decode cX9_read 146 = .ok (.iaload, 1) := by decide +kernel
theorem dX9_read_147 : decode cX9_read 147 = .ok (.iastore, 1) := by decide +kernel
theorem dX9_read_148 : decode cX9_read 148 = .ok (.iinc 2 1, 3) := by decide +kernel
theorem dX9_read_151 : decode cX9_read 151 = .ok (.goto (-45), 3) := by decide +kernel
theorem dX9_read_154 : decode cX9_read 154 = .ok (.iinc 1 1, 3) := by decide +kernel
theorem dX9_read_157 : decode cX9_read 157 = .ok (.goto (-124), 3) := by decide +kernel
theorem dX9_read_160 : decode cX9_read 160 = .ok (.aload_n 0, 1) := by decide +kernel
theorem dX9_read_161 : decode cX9_read 161 = .ok (.getfield 140, 3) := by decide +kernel
theorem dX9_read_164 : decode cX9_read 164 = .ok (.ireturn, 1) := by decide +kernel
theorem dJxf58ca_isNaN_12338_0 : decode cJxf58ca_isNaN_12338 0 = .ok (.fload_n 0, 1) := by decide +kernel
theorem dJxf58ca_isNaN_12338_1 : decode cJxf58ca_isNaN_12338 1 = .ok (.fload_n 0, 1) := by decide +kernel
theorem dJxf58ca_isNaN_12338_2 : decode cJxf58ca_isNaN_12338 2 = .ok (.fcmp .l, 1) := by decide +kernel
theorem dJxf58ca_isNaN_12338_3 : decode cJxf58ca_isNaN_12338 3 = .ok (.ifCond .eq 7, 3) := by decide +kernel
theorem dJxf58ca_isNaN_12338_6 : decode cJxf58ca_isNaN_12338 6 = .ok (.iconst 1, 1) := by decide +kernel
theorem dJxf58ca_isNaN_12338_7 : decode cJxf58ca_isNaN_12338 7 = .ok (.goto 4, 3) := by decide +kernel
theorem dJxf58ca_isNaN_12338_10 : decode cJxf58ca_isNaN_12338 10 = .ok (.iconst 0, 1) := by decide +kernel
theorem dJxf58ca_isNaN_12338_11 : decode cJxf58ca_isNaN_12338 11 = .ok (.ireturn, 1) := by decide +kernel
theorem dJxf58ca_floatToIntBits_5c35a_0 : decode cJxf58ca_floatToIntBits_5c35a 0 = .ok (.fload_n 0, 1) := by decide +kernel
theorem dJxf58ca_floatToIntBits_5c35a_1 : decode cJxf58ca_floatToIntBits_5c35a 1 = .ok (.invokestatic 59, 3) := by decide +kernel
theorem dJxf58ca_floatToIntBits_5c35a_4 : decode cJxf58ca_floatToIntBits_5c35a 4 = .ok (.ifCond .ne 8, 3) := by decide +kernel
theorem dJxf58ca_floatToIntBits_5c35a_7 : decode cJxf58ca_floatToIntBits_5c35a 7 = .ok (.fload_n 0, 1) := by decide +kernel
theorem dJxf58ca_floatToIntBits_5c35a_8 : decode cJxf58ca_floatToIntBits_5c35a 8 = .ok (.invokestatic 74, 3) := by decide +kernel
theorem dJxf58ca_floatToIntBits_5c35a_11 : decode cJxf58ca_floatToIntBits_5c35a 11 = .ok (.ireturn, 1) := by decide +kernel
theorem dJxf58ca_floatToIntBits_5c35a_12 : decode cJxf58ca_floatToIntBits_5c35a 12 = .ok (.ldc 77, 2) := by decide +kernel
theorem dJxf58ca_floatToIntBits_5c35a_14 : decode cJxf58ca_floatToIntBits_5c35a 14 = .ok (.ireturn, 1) := by decide +kernel
theorem dJ6_bitCount_0f7a4_0 : decode cJ6_bitCount_0f7a4 0 = .ok (.iload_n 0, 1) := by decide +kernel
theorem dJ6_bitCount_0f7a4_1 : decode cJ6_bitCount_0f7a4 1 = .ok (.iload_n 0, 1) := by decide +kernel
theorem dJ6_bitCount_0f7a4_2 : decode cJ6_bitCount_0f7a4 2 = .ok (.iconst 1, 1) := by decide +kernel
theorem dJ6_bitCount_0f7a4_3 : decode cJ6_bitCount_0f7a4 3 = .ok (.iushr, 1) := by decide +kernel
theorem dJ6_bitCount_0f7a4_4 : decode cJ6_bitCount_0f7a4 4 = .ok (.ldc_w 265, 3) := by decide +kernel
theorem dJ6_bitCount_0f7a4_7 : decode cJ6_bitCount_0f7a4 7 = .ok (.iand, 1) := by decide +kernel
theorem dJ6_bitCount_0f7a4_8 : decode cJ6_bitCount_0f7a4 8 = .ok (.isub, 1) := by decide +kernel
theorem dJ6_bitCount_0f7a4_9 : decode cJ6_bitCount_0f7a4 9 = .ok (.istore_n 0, 1) := by decide +kernel
theorem dJ6_bitCount_0f7a4_10 : decode cJ6_bitCount_0f7a4 10 = .ok (.iload_n 0, 1) := by decide +kernel
theorem dJ6_bitCount_0f7a4_11 : decode cJ6_bitCount_0f7a4 11 = .ok (.ldc_w 266, 3) := by decide +kernel
theorem dJ6_bitCount_0f7a4_14 : decode cJ6_bitCount_0f7a4 14 = .ok (.iand, 1) := by decide +kernel
theorem dJ6_bitCount_0f7a4_15 : decode cJ6_bitCount_0f7a4 15 = .ok (.iload_n 0, 1) := by decide +kernel
theorem dJ6_bitCount_0f7a4_16 : decode cJ6_bitCount_0f7a4 16 = .ok (.iconst 2, 1) := by decide +kernel
theorem dJ6_bitCount_0f7a4_17 : decode cJ6_bitCount_0f7a4 17 = .ok (.iushr, 1) := by decide +kernel
theorem dJ6_bitCount_0f7a4_18 : decode cJ6_bitCount_0f7a4 18 = .ok (.ldc_w 266, 3) := by decide +kernel
theorem dJ6_bitCount_0f7a4_21 : decode cJ6_bitCount_0f7a4 21 = .ok (.iand, 1) := by decide +kernel
theorem dJ6_bitCount_0f7a4_22 : decode cJ6_bitCount_0f7a4 22 = .ok (.iadd, 1) := by decide +kernel
theorem dJ6_bitCount_0f7a4_23 : decode cJ6_bitCount_0f7a4 23 = .ok (.istore_n 0, 1) := by decide +kernel
theorem dJ6_bitCount_0f7a4_24 : decode cJ6_bitCount_0f7a4 24 = .ok (.iload_n 0, 1) := by decide +kernel
theorem dJ6_bitCount_0f7a4_25 : decode cJ6_bitCount_0f7a4 25 = .ok (.iload_n 0, 1) := by decide +kernel
theorem dJ6_bitCount_0f7a4_26 : decode cJ6_bitCount_0f7a4 26 = .ok (.iconst 4, 1) := by decide +kernel
theorem dJ6_bitCount_0f7a4_27 : decode cJ6_bitCount_0f7a4 27 = .ok (.iushr, 1) := by decide +kernel
theorem dJ6_bitCount_0f7a4_28 : decode cJ6_bitCount_0f7a4 28 = .ok (.iadd, 1) := by decide +kernel
theorem dJ6_bitCount_0f7a4_29 : decode cJ6_bitCount_0f7a4 29 = .ok (.ldc_w 267, 3) := by decide +kernel
theorem dJ6_bitCount_0f7a4_32 : decode cJ6_bitCount_0f7a4 32 = .ok (.iand, 1) := by decide +kernel
theorem dJ6_bitCount_0f7a4_33 : decode cJ6_bitCount_0f7a4 33 = .ok (.istore_n 0, 1) := by decide +kernel
theorem dJ6_bitCount_0f7a4_34 : decode cJ6_bitCount_0f7a4 34 = .ok (.iload_n 0, 1) := by decide +kernel
theorem dJ6_bitCount_0f7a4_35 : decode cJ6_bitCount_0f7a4 35 = .ok (.iload_n 0, 1) := by decide +kernel
theorem dJ6_bitCount_0f7a4_36 : decode cJ6_bitCount_0f7a4 36 = .ok (.bipush 8, 2) := by decide +kernel
theorem dJ6_bitCount_0f7a4_38 : decode cJ6_bitCount_0f7a4 38 = .ok (.iushr, 1) := by decide +kernel
theorem dJ6_bitCount_0f7a4_39 : decode cJ6_bitCount_0f7a4 39 = .ok (.iadd, 1) := by decide +kernel
theorem dJ6_bitCount_0f7a4_40 : decode cJ6_bitCount_0f7a4 40 = .ok (.istore_n 0, 1) := by decide +kernel
theorem dJ6_bitCount_0f7a4_41 : decode cJ6_bitCount_0f7a4 41 = .ok (.iload_n 0, 1) := by decide +kernel
theorem dJ6_bitCount_0f7a4_42 : decode cJ6_bitCount_0f7a4 42 = .ok (.iload_n 0, 1) := by decide +kernel
theorem dJ6_bitCount_0f7a4_43 : decode cJ6_bitCount_0f7a4 43 = .ok (.bipush 16, 2) := by decide +kernel
theorem dJ6_bitCount_0f7a4_45 : decode cJ6_bitCount_0f7a4 45 = .ok (.iushr, 1) := by decide +kernel
theorem dJ6_bitCount_0f7a4_46 : decode cJ6_bitCount_0f7a4 46 = .ok (.iadd, 1) := by decide +kernel
theorem dJ6_bitCount_0f7a4_47 : decode cJ6_bitCount_0f7a4 47 = .ok (.istore_n 0, 1) := by decide +kernel
theorem dJ6_bitCount_0f7a4_48 : decode cJ6_bitCount_0f7a4 48 = .ok (.iload_n 0, 1) := by decide +kernel
theorem dJ6_bitCount_0f7a4_49 : decode cJ6_bitCount_0f7a4 49 = .ok (.bipush 63, 2) := by decide +kernel
theorem dJ6_bitCount_0f7a4_51 : decode cJ6_bitCount_0f7a4 51 = .ok (.iand, 1) := by decide +kernel
theorem dJ6_bitCount_0f7a4_52 : decode cJ6_bitCount_0f7a4 52 = .ok (.ireturn, 1) := by decide +kernel
theorem dJ9_abs_0f7a4_0 : decode cJ9_abs_0f7a4 0 = .ok (.iload_n 0, 1) := by decide +kernel
theorem dJ9_abs_0f7a4_1 : decode cJ9_abs_0f7a4 1 = .ok (.ifCond .ge 8, 3) := by decide +kernel
theorem dJ9_abs_0f7a4_4 : decode cJ9_abs_0f7a4 4 = .ok (.iload_n 0, 1) := by decide +kernel
theorem dJ9_abs_0f7a4_5 : decode cJ9_abs_0f7a4 5 = .ok (.ineg, 1) := by decide +kernel
theorem dJ9_abs_0f7a4_6 : decode cJ9_abs_0f7a4 6 = .ok (.goto 4, 3) := by decide +kernel
theorem dJ9_abs_0f7a4_9 : decode cJ9_abs_0f7a4 9 = .ok (.iload_n 0, 1) := by decide +kernel
theorem dJ9_abs_0f7a4_10 : decode cJ9_abs_0f7a4 10 = .ok (.ireturn, 1) := by decide +kernel
theorem dJ9_max_7cf53_0 : decode cJ9_max_7cf53 0 = .ok (.iload_n 0, 1) := by decide +kernel
theorem dJ9_max_7cf53_1 : decode cJ9_max_7cf53 1 = .ok (.iload_n 1, 1) := by decide +kernel
theorem dJ9_max_7cf53_2 : decode cJ9_max_7cf53 2 = .ok (.if_icmp .lt 7, 3) := by decide +kernel
theorem dJ9_max_7cf53_5 : decode cJ9_max_7cf53 5 = .ok (.iload_n 0, 1) := by decide +kernel
theorem dJ9_max_7cf53_6 : decode cJ9_max_7cf53 6 = .ok (.goto 4, 3) := by decide +kernel
theorem dJ9_max_7cf53_9 : decode cJ9_max_7cf53 9 = .ok (.iload_n 1, 1) := by decide +kernel
theorem dJ9_max_7cf53_10 : decode cJ9_max_7cf53 10 = .ok (.ireturn, 1) := by decide +kernel
theorem dJ9_min_7cf53_0 : decode cJ9_min_7cf53 0 = .ok (.iload_n 0, 1) := by decide +kernel
theorem dJ9_min_7cf53_1 : decode cJ9_min_7cf53 1 = .ok (.iload_n 1, 1) := by decide +kernel
theorem dJ9_min_7cf53_2 : decode cJ9_min_7cf53 2 = .ok (.if_icmp .gt 7, 3) := by decide +kernel
theorem dJ9_min_7cf53_5 : decode cJ9_min_7cf53 5 = .ok (.iload_n 0, 1) := by decide +kernel
theorem dJ9_min_7cf53_6 : decode cJ9_min_7cf53 6 = .ok (.goto 4, 3) := by decide +kernel
theorem dJ9_min_7cf53_9 : decode cJ9_min_7cf53 9 = .ok (.iload_n 1, 1) := by decide +kernel
theorem dJ9_min_7cf53_10 : decode cJ9_min_7cf53 10 = .ok (.ireturn, 1) := by decide +kernel
theorem dL_law_0 : decode cL_law 0 = .ok (.new 7, 3) := by decide +kernel
theorem dL_law_3 : decode cL_law 3 = .ok (.dup, 1) := by decide +kernel
theorem dL_law_4 : decode cL_law 4 = .ok (.invokespecial 9, 3) := by decide +kernel
theorem dL_law_7 : decode cL_law 7 = .ok (.astore_n 1, 1) := by decide +kernel
theorem dL_law_8 : decode cL_law 8 = .ok (.new 10, 3) := by decide +kernel
theorem dL_law_11 : decode cL_law 11 = .ok (.dup, 1) := by decide +kernel
theorem dL_law_12 : decode cL_law 12 = .ok (.invokespecial 12, 3) := by decide +kernel
theorem dL_law_15 : decode cL_law 15 = .ok (.astore_n 2, 1) := by decide +kernel
theorem dL_law_16 : decode cL_law 16 = .ok (.iconst 0, 1) := by decide +kernel
theorem dL_law_17 : decode cL_law 17 = .ok (.istore_n 3, 1) := by decide +kernel
theorem dL_law_18 : decode cL_law 18 = .ok (.iload_n 3, 1) := by decide +kernel
theorem dL_law_19 : decode cL_law 19 = .ok (.aload_n 0, 1) := by decide +kernel
theorem dL_law_20 : decode cL_law 20 = .ok (.arraylength, 1) := by decide +kernel
theorem dL_law_21 : decode cL_law 21 = .ok (.iconst 4, 1) := by decide +kernel
theorem dL_law_22 : decode cL_law 22 = .ok (.isub, 1) := by decide +kernel
theorem dL_law_23 : decode cL_law 23 = .ok (.if_icmp .gt 736, 3) := by decide +kernel
theorem dL_law_26 : decode cL_law 26 = .ok (.aload_n 0, 1) := by decide +kernel
theorem dL_law_27 : decode cL_law 27 = .ok (.iload_n 3, 1) := by decide +kernel
theorem dL_law_28 : decode cL_law 28 = .ok (.iaload, 1) := by decide +kernel
theorem dL_law_29 : decode cL_law 29 = .ok (.bipush 31, 2) := by decide +kernel
theorem dL_law_31 : decode cL_law 31 = .ok (.iand, 1) := by decide +kernel
theorem dL_law_32 : decode cL_law 32 = .ok (.tableswitch 721 0 24 #[116, 149, 172, 215, 248, 271, 294, 317, 340, 383, 416, 449, 472, 505, 528, 551, 584, 597, 610, 623, 636, 649, 672, 685, 708], 116) := by decide +kernel
theorem dL_law_148 : decode cL_law 148 = .ok (.aload_n 1, 1) := by decide +kernel
theorem dL_law_149 : decode cL_law 149 = .ok (.aload_n 0, 1) := by decide +kernel
theorem dL_law_150 : decode cL_law 150 = .ok (.iload_n 3, 1) := by decide +kernel
theorem dL_law_151 : decode cL_law 151 = .ok (.iconst 1, 1) := by decide +kernel
theorem dL_law_152 : decode cL_law 152 = .ok (.iadd, 1) := by decide +kernel
theorem dL_law_153 : decode cL_law 153 = .ok (.iaload, 1) := by decide +kernel
theorem dL_law_154 : decode cL_law 154 = .ok (.aload_n 0, 1) := by decide +kernel
theorem dL_law_155 : decode cL_law 155 = .ok (.iload_n 3, 1) := by decide +kernel
theorem dL_law_156 : decode cL_law 156 = .ok (.iconst 2, 1) := by decide +kernel
theorem dL_law_157 : decode cL_law 157 = .ok (.iadd, 1) := by decide +kernel
theorem dL_law_158 : decode cL_law 158 = .ok (.iaload, 1) := by decide +kernel
theorem dL_law_159 : decode cL_law 159 = .ok (.invokevirtual 13, 3) := by decide +kernel
theorem dL_law_162 : decode cL_law 162 = .ok (.aload_n 2, 1) := by decide +kernel
theorem dL_law_163 : decode cL_law 163 = .ok (.aload_n 0, 1) := by decide +kernel
theorem dL_law_164 : decode cL_law 164 = .ok (.iload_n 3, 1) := by decide +kernel
theorem dL_law_165 : decode cL_law 165 = .ok (.iconst 1, 1) := by decide +kernel
theorem dL_law_166 : decode cL_law 166 = .ok (.iadd, 1) := by decide +kernel
theorem dL_law_167 : decode cL_law 167 = .ok (.iaload, 1) := by decide +kernel
theorem dL_law_168 : decode cL_law 168 = .ok (.aload_n 0, 1) := by decide +kernel
theorem dL_law_169 : decode cL_law 169 = .ok (.iload_n 3, 1) := by decide +kernel
theorem dL_law_170 : decode cL_law 170 = .ok (.iconst 2, 1) := by decide +kernel
theorem dL_law_171 : decode cL_law 171 = .ok (.iadd, 1) := by decide +kernel
theorem dL_law_172 : decode cL_law 172 = .ok (.iaload, 1) := by decide +kernel
theorem dL_law_173 : decode cL_law 173 = .ok (.invokevirtual 17, 3) := by decide +kernel
theorem dL_law_176 : decode cL_law 176 = .ok (.if_icmp .eq 577, 3) := by decide +kernel
theorem dL_law_179 : decode cL_law 179 = .ok (.iconst 0, 1) := by decide +kernel
theorem dL_law_180 : decode cL_law 180 = .ok (.ireturn, 1) := by decide +kernel
theorem dL_law_181 : decode cL_law 181 = .ok (.aload_n 1, 1) := by decide +kernel
theorem dL_law_182 : decode cL_law 182 = .ok (.aload_n 0, 1) := by decide +kernel
theorem dL_law_183 : decode cL_law 183 = .ok (.iload_n 3, 1) := by decide +kernel
theorem dL_law_184 : decode cL_law 184 = .ok (.iconst 1, 1) := by decide +kernel
theorem dL_law_185 : decode cL_law 185 = .ok (.iadd, 1) := by decide +kernel
theorem dL_law_186 : decode cL_law 186 = .ok (.iaload, 1) := by decide +kernel
theorem dL_law_187 : decode cL_law 187 = .ok (.invokevirtual 18, 3) := by decide +kernel
theorem dL_law_190 : decode cL_law 190 = .ok (.aload_n 2, 1) := by decide +kernel
theorem dL_law_191 : decode cL_law 191 = .ok (.aload_n 0, 1) := by decide +kernel
theorem dL_law_192 : decode cL_law 192 = .ok (.iload_n 3, 1) := by decide +kernel
theorem dL_law_193 : decode cL_law 193 = .ok (.iconst 1, 1) := by decide +kernel
theorem dL_law_194 : decode cL_law 194 = .ok (.iadd, 1) := by decide +kernel
theorem dL_law_195 : decode cL_law 195 = .ok (.iaload, 1) := by decide +kernel
theorem dL_law_196 : decode cL_law 196 = .ok (.invokevirtual 22, 3) := by decide +kernel
theorem dL_law_199 : decode cL_law 199 = .ok (.if_icmp .eq 554, 3) := by decide +kernel
theorem dL_law_202 : decode cL_law 202 = .ok (.iconst 0, 1) := by decide +kernel
theorem dL_law_203 : decode cL_law 203 = .ok (.ireturn, 1) := by decide +kernel
theorem dL_law_204 : decode cL_law 204 = .ok (.aload_n 1, 1) := by decide +kernel
theorem dL_law_205 : decode cL_law 205 = .ok (.aload_n 0, 1) := by decide +kernel
theorem dL_law_206 : decode cL_law 206 = .ok (.iload_n 3, 1) := by decide +kernel
theorem dL_law_207 : decode cL_law 207 = .ok (.iconst 1, 1) := by decide +kernel
theorem dL_law_208 : decode cL_law 208 = .ok (.iadd, 1) := by decide +kernel
theorem dL_law_209 : decode cL_law 209 = .ok (.iaload, 1) := by decide +kernel
theorem dL_law_210 : decode cL_law 210 = .ok (.aload_n 0, 1) := by decide +kernel
theorem dL_law_211 : decode cL_law 211 = .ok (.iload_n 3, 1) := by decide +kernel
theorem dL_law_212 : decode cL_law 212 = .ok (.iconst 2, 1) := by decide +kernel
theorem dL_law_213 : decode cL_law 213 = .ok (.iadd, 1) := by decide +kernel
theorem dL_law_214 : decode cL_law 214 = .ok (.iaload, 1) := by decide +kernel
theorem dL_law_215 : decode cL_law 215 = .ok (.aload_n 0, 1) := by decide +kernel
theorem dL_law_216 : decode cL_law 216 = .ok (.iload_n 3, 1) := by decide +kernel
theorem dL_law_217 : decode cL_law 217 = .ok (.iconst 3, 1) := by decide +kernel
theorem dL_law_218 : decode cL_law 218 = .ok (.iadd, 1) := by decide +kernel
theorem dL_law_219 : decode cL_law 219 = .ok (.iaload, 1) := by decide +kernel
theorem dL_law_220 : decode cL_law 220 = .ok (.invokevirtual 23, 3) := by decide +kernel
theorem dL_law_223 : decode cL_law 223 = .ok (.aload_n 2, 1) := by decide +kernel
theorem dL_law_224 : decode cL_law 224 = .ok (.aload_n 0, 1) := by decide +kernel
theorem dL_law_225 : decode cL_law 225 = .ok (.iload_n 3, 1) := by decide +kernel
theorem dL_law_226 : decode cL_law 226 = .ok (.iconst 1, 1) := by decide +kernel
theorem dL_law_227 : decode cL_law 227 = .ok (.iadd, 1) := by decide +kernel
theorem dL_law_228 : decode cL_law 228 = .ok (.iaload, 1) := by decide +kernel
theorem dL_law_229 : decode cL_law 229 = .ok (.aload_n 0, 1) := by decide +kernel
theorem dL_law_230 : decode cL_law 230 = .ok (.iload_n 3, 1) := by decide +kernel
theorem dL_law_231 : decode cL_law 231 = .ok (.iconst 2, 1) := by decide +kernel
theorem dL_law_232 : decode cL_law 232 = .ok (.iadd, 1) := by decide +kernel
theorem dL_law_233 : decode cL_law 233 = .ok (.iaload, 1) := by decide +kernel
theorem dL_law_234 : decode cL_law 234 = .ok (.aload_n 0, 1) := by decide +kernel
theorem dL_law_235 : decode cL_law 235 = .ok (.iload_n 3, 1) := by decide +kernel
theorem dL_law_236 : decode cL_law 236 = .ok (.iconst 3, 1) := by decide +kernel
theorem dL_law_237 : decode cL_law 237 = .ok (.iadd, 1) := by decide +kernel
theorem dL_law_238 : decode cL_law 238 = .ok (.iaload, 1) := by decide +kernel
theorem dL_law_239 : decode cL_law 239 = .ok (.invokevirtual 27, 3) := by decide +kernel
theorem dL_law_242 : decode cL_law 242 = .ok (.if_icmp .eq 511, 3) := by decide +kernel
theorem dL_law_245 : decode cL_law 245 = .ok (.iconst 0, 1) := by decide +kernel
theorem dL_law_246 : decode cL_law 246 = .ok (.ireturn, 1) := by decide +kernel
theorem dL_law_247 : decode cL_law 247 = .ok (.aload_n 1, 1) := by decide +kernel
theorem dL_law_248 : decode cL_law 248 = .ok (.aload_n 0, 1) := by decide +kernel
theorem dL_law_249 : decode cL_law 249 = .ok (.iload_n 3, 1) := by decide +kernel
theorem dL_law_250 : decode cL_law 250 = .ok (.iconst 1, 1) := by decide +kernel
theorem dL_law_251 : decode cL_law 251 = .ok (.iadd, 1) := by decide +kernel
theorem dL_law_252 : decode cL_law 252 = .ok (.iaload, 1) := by decide +kernel
theorem dL_law_253 : decode cL_law 253 = .ok (.aload_n 0, 1) := by decide +kernel
theorem dL_law_254 : decode cL_law 254 = .ok (.iload_n 3, 1) := by decide +kernel
theorem dL_law_255 : decode cL_law 255 = .ok (.iconst 2, 1) := by decide +kernel
theorem dL_law_256 : decode cL_law 256 = .ok (.iadd, 1) := by decide +kernel
theorem dL_law_257 : decode cL_law 257 = .ok (.iaload, 1) := by decide +kernel
theorem dL_law_258 : decode cL_law 258 = .ok (.invokevirtual 28, 3) := by decide +kernel
theorem dL_law_261 : decode cL_law 261 = .ok (.aload_n 2, 1) := by decide +kernel
theorem dL_law_262 : decode cL_law 262 = .ok (.aload_n 0, 1) := by decide +kernel
theorem dL_law_263 : decode cL_law 263 = .ok (.iload_n 3, 1) := by decide +kernel
theorem dL_law_264 : decode cL_law 264 = .ok (.iconst 1, 1) := by decide +kernel
theorem dL_law_265 : decode cL_law 265 = .ok (.iadd, 1) := by decide +kernel
theorem dL_law_266 : decode cL_law 266 = .ok (.iaload, 1) := by decide +kernel
theorem dL_law_267 : decode cL_law 267 = .ok (.aload_n 0, 1) := by decide +kernel
theorem dL_law_268 : decode cL_law 268 = .ok (.iload_n 3, 1) := by decide +kernel
theorem dL_law_269 : decode cL_law 269 = .ok (.iconst 2, 1) := by decide +kernel
theorem dL_law_270 : decode cL_law 270 = .ok (.iadd, 1) := by decide +kernel
theorem dL_law_271 : decode cL_law 271 = .ok (.iaload, 1) := by decide +kernel
theorem dL_law_272 : decode cL_law 272 = .ok (.invokevirtual 31, 3) := by decide +kernel
theorem dL_law_275 : decode cL_law 275 = .ok (.if_icmp .eq 478, 3) := by decide +kernel
theorem dL_law_278 : decode cL_law 278 = .ok (.iconst 0, 1) := by decide +kernel
theorem dL_law_279 : decode cL_law 279 = .ok (.ireturn, 1) := by decide +kernel
theorem dL_law_280 : decode cL_law 280 = .ok (.aload_n 1, 1) := by decide +kernel
theorem dL_law_281 : decode cL_law 281 = .ok (.aload_n 0, 1) := by decide +kernel
theorem dL_law_282 : decode cL_law 282 = .ok (.iload_n 3, 1) := by decide +kernel
theorem dL_law_283 : decode cL_law 283 = .ok (.iconst 1, 1) := by decide +kernel
theorem dL_law_284 : decode cL_law 284 = .ok (.iadd, 1) := by decide +kernel
theorem dL_law_285 : decode cL_law 285 = .ok (.iaload, 1) := by decide +kernel
theorem dL_law_286 : decode cL_law 286 = .ok (.invokevirtual 32, 3) := by decide +kernel
theorem dL_law_289 : decode cL_law 289 = .ok (.aload_n 2, 1) := by decide +kernel
theorem dL_law_290 : decode cL_law 290 = .ok (.aload_n 0, 1) := by decide +kernel
theorem dL_law_291 : decode cL_law 291 = .ok (.iload_n 3, 1) := by decide +kernel
theorem dL_law_292 : decode cL_law 292 = .ok (.iconst 1, 1) := by decide +kernel
theorem dL_law_293 : decode cL_law 293 = .ok (.iadd, 1) := by decide +kernel
theorem dL_law_294 : decode cL_law 294 = .ok (.iaload, 1) := by decide +kernel
theorem dL_law_295 : decode cL_law 295 = .ok (.invokevirtual 35, 3) := by decide +kernel
theorem dL_law_298 : decode cL_law 298 = .ok (.if_icmp .eq 455, 3) := by decide +kernel
theorem dL_law_301 : decode cL_law 301 = .ok (.iconst 0, 1) := by decide +kernel
theorem dL_law_302 : decode cL_law 302 = .ok (.ireturn, 1) := by decide +kernel
theorem dL_law_303 : decode cL_law 303 = .ok (.aload_n 1, 1) := by decide +kernel
theorem dL_law_304 : decode cL_law 304 = .ok (.aload_n 0, 1) := by decide +kernel
theorem dL_law_305 : decode cL_law 305 = .ok (.iload_n 3, 1) := by decide +kernel
theorem dL_law_306 : decode cL_law 306 = .ok (.iconst 1, 1) := by decide +kernel
theorem dL_law_307 : decode cL_law 307 = .ok (.iadd, 1) := by decide +kernel
theorem dL_law_308 : decode cL_law 308 = .ok (.iaload, 1) := by decide +kernel
theorem dL_law_309 : decode cL_law 309 = .ok (.invokevirtual 36, 3) := by decide +kernel
theorem dL_law_312 : decode cL_law 312 = .ok (.aload_n 2, 1) := by decide +kernel
theorem dL_law_313 : decode cL_law 313 = .ok (.aload_n 0, 1) := by decide +kernel
theorem dL_law_314 : decode cL_law 314 = .ok (.iload_n 3, 1) := by decide +kernel
theorem dL_law_315 : decode cL_law 315 = .ok (.iconst 1, 1) := by decide +kernel
theorem dL_law_316 : decode cL_law 316 = .ok (.iadd, 1) := by decide +kernel
theorem dL_law_317 : decode cL_law 317 = .ok (.iaload, 1) := by decide +kernel
theorem dL_law_318 : decode cL_law 318 = .ok (.invokevirtual 39, 3) := by decide +kernel
theorem dL_law_321 : decode cL_law 321 = .ok (.if_icmp .eq 432, 3) := by decide +kernel
theorem dL_law_324 : decode cL_law 324 = .ok (.iconst 0, 1) := by decide +kernel
theorem dL_law_325 : decode cL_law 325 = .ok (.ireturn, 1) := by decide +kernel
theorem dL_law_326 : decode cL_law 326 = .ok (.aload_n 1, 1) := by decide +kernel
theorem dL_law_327 : decode cL_law 327 = .ok (.aload_n 0, 1) := by decide +kernel
theorem dL_law_328 : decode cL_law 328 = .ok (.iload_n 3, 1) := by decide +kernel
theorem dL_law_329 : decode cL_law 329 = .ok (.iconst 1, 1) := by decide +kernel
theorem dL_law_330 : decode cL_law 330 = .ok (.iadd, 1) := by decide +kernel
theorem dL_law_331 : decode cL_law 331 = .ok (.iaload, 1) := by decide +kernel
theorem dL_law_332 : decode cL_law 332 = .ok (.invokevirtual 40, 3) := by decide +kernel
theorem dL_law_335 : decode cL_law 335 = .ok (.aload_n 2, 1) := by decide +kernel
theorem dL_law_336 : decode cL_law 336 = .ok (.aload_n 0, 1) := by decide +kernel
theorem dL_law_337 : decode cL_law 337 = .ok (.iload_n 3, 1) := by decide +kernel
theorem dL_law_338 : decode cL_law 338 = .ok (.iconst 1, 1) := by decide +kernel
theorem dL_law_339 : decode cL_law 339 = .ok (.iadd, 1) := by decide +kernel
theorem dL_law_340 : decode cL_law 340 = .ok (.iaload, 1) := by decide +kernel
theorem dL_law_341 : decode cL_law 341 = .ok (.invokevirtual 43, 3) := by decide +kernel
theorem dL_law_344 : decode cL_law 344 = .ok (.if_icmp .eq 409, 3) := by decide +kernel
theorem dL_law_347 : decode cL_law 347 = .ok (.iconst 0, 1) := by decide +kernel
theorem dL_law_348 : decode cL_law 348 = .ok (.ireturn, 1) := by decide +kernel
theorem dL_law_349 : decode cL_law 349 = .ok (.aload_n 1, 1) := by decide +kernel
theorem dL_law_350 : decode cL_law 350 = .ok (.aload_n 0, 1) := by decide +kernel
theorem dL_law_351 : decode cL_law 351 = .ok (.iload_n 3, 1) := by decide +kernel
theorem dL_law_352 : decode cL_law 352 = .ok (.iconst 1, 1) := by decide +kernel
theorem dL_law_353 : decode cL_law 353 = .ok (.iadd, 1) := by decide +kernel
theorem dL_law_354 : decode cL_law 354 = .ok (.iaload, 1) := by decide +kernel
theorem dL_law_355 : decode cL_law 355 = .ok (.invokevirtual 44, 3) := by decide +kernel
theorem dL_law_358 : decode cL_law 358 = .ok (.aload_n 2, 1) := by decide +kernel
theorem dL_law_359 : decode cL_law 359 = .ok (.aload_n 0, 1) := by decide +kernel
theorem dL_law_360 : decode cL_law 360 = .ok (.iload_n 3, 1) := by decide +kernel
theorem dL_law_361 : decode cL_law 361 = .ok (.iconst 1, 1) := by decide +kernel
theorem dL_law_362 : decode cL_law 362 = .ok (.iadd, 1) := by decide +kernel
theorem dL_law_363 : decode cL_law 363 = .ok (.iaload, 1) := by decide +kernel
theorem dL_law_364 : decode cL_law 364 = .ok (.invokevirtual 47, 3) := by decide +kernel
theorem dL_law_367 : decode cL_law 367 = .ok (.if_icmp .eq 386, 3) := by decide +kernel
theorem dL_law_370 : decode cL_law 370 = .ok (.iconst 0, 1) := by decide +kernel
theorem dL_law_371 : decode cL_law 371 = .ok (.ireturn, 1) := by decide +kernel
theorem dL_law_372 : decode cL_law 372 = .ok (.aload_n 1, 1) := by decide +kernel
theorem dL_law_373 : decode cL_law 373 = .ok (.aload_n 0, 1) := by decide +kernel
theorem dL_law_374 : decode cL_law 374 = .ok (.iload_n 3, 1) := by decide +kernel
theorem dL_law_375 : decode cL_law 375 = .ok (.iconst 1, 1) := by decide +kernel
theorem dL_law_376 : decode cL_law 376 = .ok (.iadd, 1) := by decide +kernel
theorem dL_law_377 : decode cL_law 377 = .ok (.iaload, 1) := by decide +kernel
theorem dL_law_378 : decode cL_law 378 = .ok (.aload_n 0, 1) := by decide +kernel
theorem dL_law_379 : decode cL_law 379 = .ok (.iload_n 3, 1) := by decide +kernel
theorem dL_law_380 : decode cL_law 380 = .ok (.iconst 2, 1) := by decide +kernel
theorem dL_law_381 : decode cL_law 381 = .ok (.iadd, 1) := by decide +kernel
theorem dL_law_382 : decode cL_law 382 = .ok (.iaload, 1) := by decide +kernel
theorem dL_law_383 : decode cL_law 383 = .ok (.aload_n 0, 1) := by decide +kernel
theorem dL_law_384 : decode cL_law 384 = .ok (.iload_n 3, 1) := by decide +kernel
theorem dL_law_385 : decode cL_law 385 = .ok (.iconst 3, 1) := by decide +kernel
theorem dL_law_386 : decode cL_law 386 = .ok (.iadd, 1) := by decide +kernel
theorem dL_law_387 : decode cL_law 387 = .ok (.iaload, 1) := by decide +kernel
theorem dL_law_388 : decode cL_law 388 = .ok (.invokevirtual 48, 3) := by decide +kernel
theorem dL_law_391 : decode cL_law 391 = .ok (.aload_n 2, 1) := by decide +kernel
theorem dL_law_392 : decode cL_law 392 = .ok (.aload_n 0, 1) := by decide +kernel
theorem dL_law_393 : decode cL_law 393 = .ok (.iload_n 3, 1) := by decide +kernel
theorem dL_law_394 : decode cL_law 394 = .ok (.iconst 1, 1) := by decide +kernel
theorem dL_law_395 : decode cL_law 395 = .ok (.iadd, 1) := by decide +kernel
theorem dL_law_396 : decode cL_law 396 = .ok (.iaload, 1) := by decide +kernel
theorem dL_law_397 : decode cL_law 397 = .ok (.aload_n 0, 1) := by decide +kernel
theorem dL_law_398 : decode cL_law 398 = .ok (.iload_n 3, 1) := by decide +kernel
theorem dL_law_399 : decode cL_law 399 = .ok (.iconst 2, 1) := by decide +kernel
theorem dL_law_400 : decode cL_law 400 = .ok (.iadd, 1) := by decide +kernel
theorem dL_law_401 : decode cL_law 401 = .ok (.iaload, 1) := by decide +kernel
theorem dL_law_402 : decode cL_law 402 = .ok (.aload_n 0, 1) := by decide +kernel
theorem dL_law_403 : decode cL_law 403 = .ok (.iload_n 3, 1) := by decide +kernel
theorem dL_law_404 : decode cL_law 404 = .ok (.iconst 3, 1) := by decide +kernel
theorem dL_law_405 : decode cL_law 405 = .ok (.iadd, 1) := by decide +kernel
theorem dL_law_406 : decode cL_law 406 = .ok (.iaload, 1) := by decide +kernel
theorem dL_law_407 : decode cL_law 407 = .ok (.invokevirtual 51, 3) := by decide +kernel
theorem dL_law_410 : decode cL_law 410 = .ok (.if_icmp .eq 343, 3) := by decide +kernel
theorem dL_law_413 : decode cL_law 413 = .ok (.iconst 0, 1) := by decide +kernel
theorem dL_law_414 : decode cL_law 414 = .ok (.ireturn, 1) := by decide +kernel
theorem dL_law_415 : decode cL_law 415 = .ok (.aload_n 1, 1) := by decide +kernel
theorem dL_law_416 : decode cL_law 416 = .ok (.aload_n 0, 1) := by decide +kernel
theorem dL_law_417 : decode cL_law 417 = .ok (.iload_n 3, 1) := by decide +kernel
theorem dL_law_418 : decode cL_law 418 = .ok (.iconst 1, 1) := by decide +kernel
theorem dL_law_419 : decode cL_law 419 = .ok (.iadd, 1) := by decide +kernel
theorem dL_law_420 : decode cL_law 420 = .ok (.iaload, 1) := by decide +kernel
theorem dL_law_421 : decode cL_law 421 = .ok (.aload_n 0, 1) := by decide +kernel
theorem dL_law_422 : decode cL_law 422 = .ok (.iload_n 3, 1) := by decide +kernel
theorem dL_law_423 : decode cL_law 423 = .ok (.iconst 2, 1) := by decide +kernel
theorem dL_law_424 : decode cL_law 424 = .ok (.iadd, 1) := by decide +kernel
theorem dL_law_425 : decode cL_law 425 = .ok (.iaload, 1) := by decide +kernel
theorem dL_law_426 : decode cL_law 426 = .ok (.invokevirtual 52, 3) := by decide +kernel
theorem dL_law_429 : decode cL_law 429 = .ok (.aload_n 2, 1) := by decide +kernel
theorem dL_law_430 : decode cL_law 430 = .ok (.aload_n 0, 1) := by decide +kernel
theorem dL_law_431 : decode cL_law 431 = .ok (.iload_n 3, 1) := by decide +kernel
theorem dL_law_432 : decode cL_law 432 = .ok (.iconst 1, 1) := by decide +kernel
theorem dL_law_433 : decode cL_law 433 = .ok (.iadd, 1) := by decide +kernel
theorem dL_law_434 : decode cL_law 434 = .ok (.iaload, 1) := by decide +kernel
theorem dL_law_435 : decode cL_law 435 = .ok (.aload_n 0, 1) := by decide +kernel
theorem dL_law_436 : decode cL_law 436 = .ok (.iload_n 3, 1) := by decide +kernel
theorem dL_law_437 : decode cL_law 437 = .ok (.iconst 2, 1) := by decide +kernel
theorem dL_law_438 : decode cL_law 438 = .ok (.iadd, 1) := by decide +kernel
theorem dL_law_439 : decode cL_law 439 = .ok (.iaload, 1) := by decide +kernel
theorem dL_law_440 : decode cL_law 440 = .ok (.invokevirtual 55, 3) := by decide +kernel
theorem dL_law_443 : decode cL_law 443 = .ok (.if_icmp .eq 310, 3) := by decide +kernel
theorem dL_law_446 : decode cL_law 446 = .ok (.iconst 0, 1) := by decide +kernel
theorem dL_law_447 : decode cL_law 447 = .ok (.ireturn, 1) := by decide +kernel
theorem dL_law_448 : decode cL_law 448 = .ok (.aload_n 1, 1) := by decide +kernel
theorem dL_law_449 : decode cL_law 449 = .ok (.aload_n 0, 1) := by decide +kernel
theorem dL_law_450 : decode cL_law 450 = .ok (.iload_n 3, 1) := by decide +kernel
theorem dL_law_451 : decode cL_law 451 = .ok (.iconst 1, 1) := by decide +kernel
theorem dL_law_452 : decode cL_law 452 = .ok (.iadd, 1) := by decide +kernel
theorem dL_law_453 : decode cL_law 453 = .ok (.iaload, 1) := by decide +kernel
theorem dL_law_454 : decode cL_law 454 = .ok (.aload_n 0, 1) := by decide +kernel
theorem dL_law_455 : decode cL_law 455 = .ok (.iload_n 3, 1) := by decide +kernel
theorem dL_law_456 : decode cL_law 456 = .ok (.iconst 2, 1) := by decide +kernel
theorem dL_law_457 : decode cL_law 457 = .ok (.iadd, 1) := by decide +kernel
theorem dL_law_458 : decode cL_law 458 = .ok (.iaload, 1) := by decide +kernel
theorem dL_law_459 : decode cL_law 459 = .ok (.invokevirtual 56, 3) := by decide +kernel
theorem dL_law_462 : decode cL_law 462 = .ok (.aload_n 2, 1) := by decide +kernel
theorem dL_law_463 : decode cL_law 463 = .ok (.aload_n 0, 1) := by decide +kernel
theorem dL_law_464 : decode cL_law 464 = .ok (.iload_n 3, 1) := by decide +kernel
theorem dL_law_465 : decode cL_law 465 = .ok (.iconst 1, 1) := by decide +kernel
theorem dL_law_466 : decode cL_law 466 = .ok (.iadd, 1) := by decide +kernel
theorem dL_law_467 : decode cL_law 467 = .ok (.iaload, 1) := by decide +kernel
theorem dL_law_468 : decode cL_law 468 = .ok (.aload_n 0, 1) := by decide +kernel
theorem dL_law_469 : decode cL_law 469 = .ok (.iload_n 3, 1) := by decide +kernel
theorem dL_law_470 : decode cL_law 470 = .ok (.iconst 2, 1) := by decide +kernel
theorem dL_law_471 : decode cL_law 471 = .ok (.iadd, 1) := by decide +kernel
theorem dL_law_472 : decode cL_law 472 = .ok (.iaload, 1) := by decide +kernel
theorem dL_law_473 : decode cL_law 473 = .ok (.invokevirtual 59, 3) := by decide +kernel
theorem dL_law_476 : decode cL_law 476 = .ok (.if_icmp .eq 277, 3) := by decide +kernel
theorem dL_law_479 : decode cL_law 479 = .ok (.iconst 0, 1) := by decide +kernel
theorem dL_law_480 : decode cL_law 480 = .ok (.ireturn, 1) := by decide +kernel
theorem dL_law_481 : decode cL_law 481 = .ok (.aload_n 1, 1) := by decide +kernel
theorem dL_law_482 : decode cL_law 482 = .ok (.aload_n 0, 1) := by decide +kernel
theorem dL_law_483 : decode cL_law 483 = .ok (.iload_n 3, 1) := by decide +kernel
theorem dL_law_484 : decode cL_law 484 = .ok (.iconst 1, 1) := by decide +kernel
theorem dL_law_485 : decode cL_law 485 = .ok (.iadd, 1) := by decide +kernel
theorem dL_law_486 : decode cL_law 486 = .ok (.iaload, 1) := by decide +kernel
theorem dL_law_487 : decode cL_law 487 = .ok (.invokevirtual 60, 3) := by decide +kernel
theorem dL_law_490 : decode cL_law 490 = .ok (.aload_n 2, 1) := by decide +kernel
theorem dL_law_491 : decode cL_law 491 = .ok (.aload_n 0, 1) := by decide +kernel
theorem dL_law_492 : decode cL_law 492 = .ok (.iload_n 3, 1) := by decide +kernel
theorem dL_law_493 : decode cL_law 493 = .ok (.iconst 1, 1) := by decide +kernel
theorem dL_law_494 : decode cL_law 494 = .ok (.iadd, 1) := by decide +kernel
theorem dL_law_495 : decode cL_law 495 = .ok (.iaload, 1) := by decide +kernel
theorem dL_law_496 : decode cL_law 496 = .ok (.invokevirtual 63, 3) := by decide +kernel
theorem dL_law_499 : decode cL_law 499 = .ok (.if_icmp .eq 254, 3) := by decide +kernel
theorem dL_law_502 : decode cL_law 502 = .ok (.iconst 0, 1) := by decide +kernel
theorem dL_law_503 : decode cL_law 503 = .ok (.ireturn, 1) := by decide +kernel
theorem dL_law_504 : decode cL_law 504 = .ok (.aload_n 1, 1) := by decide +kernel
theorem dL_law_505 : decode cL_law 505 = .ok (.aload_n 0, 1) := by decide +kernel
theorem dL_law_506 : decode cL_law 506 = .ok (.iload_n 3, 1) := by decide +kernel
theorem dL_law_507 : decode cL_law 507 = .ok (.iconst 1, 1) := by decide +kernel
theorem dL_law_508 : decode cL_law 508 = .ok (.iadd, 1) := by decide +kernel
theorem dL_law_509 : decode cL_law 509 = .ok (.iaload, 1) := by decide +kernel
theorem dL_law_510 : decode cL_law 510 = .ok (.aload_n 0, 1) := by decide +kernel
theorem dL_law_511 : decode cL_law 511 = .ok (.iload_n 3, 1) := by decide +kernel
theorem dL_law_512 : decode cL_law 512 = .ok (.iconst 2, 1) := by decide +kernel
theorem dL_law_513 : decode cL_law 513 = .ok (.iadd, 1) := by decide +kernel
theorem dL_law_514 : decode cL_law 514 = .ok (.iaload, 1) := by decide +kernel
theorem dL_law_515 : decode cL_law 515 = .ok (.invokevirtual 64, 3) := by decide +kernel
theorem dL_law_518 : decode cL_law 518 = .ok (.aload_n 2, 1) := by decide +kernel
theorem dL_law_519 : decode cL_law 519 = .ok (.aload_n 0, 1) := by decide +kernel
theorem dL_law_520 : decode cL_law 520 = .ok (.iload_n 3, 1) := by decide +kernel
theorem dL_law_521 : decode cL_law 521 = .ok (.iconst 1, 1) := by decide +kernel
theorem dL_law_522 : decode cL_law 522 = .ok (.iadd, 1) := by decide +kernel
theorem dL_law_523 : decode cL_law 523 = .ok (.iaload, 1) := by decide +kernel
theorem dL_law_524 : decode cL_law 524 = .ok (.aload_n 0, 1) := by decide +kernel
theorem dL_law_525 : decode cL_law 525 = .ok (.iload_n 3, 1) := by decide +kernel
theorem dL_law_526 : decode cL_law 526 = .ok (.iconst 2, 1) := by decide +kernel
theorem dL_law_527 : decode cL_law 527 = .ok (.iadd, 1) := by decide +kernel
theorem dL_law_528 : decode cL_law 528 = .ok (.iaload, 1) := by decide +kernel
theorem dL_law_529 : decode cL_law 529 = .ok (.invokevirtual 67, 3) := by decide +kernel
theorem dL_law_532 : decode cL_law 532 = .ok (.if_icmp .eq 221, 3) := by decide +kernel
theorem dL_law_535 : decode cL_law 535 = .ok (.iconst 0, 1) := by decide +kernel
theorem dL_law_536 : decode cL_law 536 = .ok (.ireturn, 1) := by decide +kernel
theorem dL_law_537 : decode cL_law 537 = .ok (.aload_n 1, 1) := by decide +kernel
theorem dL_law_538 : decode cL_law 538 = .ok (.aload_n 0, 1) := by decide +kernel
theorem dL_law_539 : decode cL_law 539 = .ok (.iload_n 3, 1) := by decide +kernel
theorem dL_law_540 : decode cL_law 540 = .ok (.iconst 1, 1) := by decide +kernel
theorem dL_law_541 : decode cL_law 541 = .ok (.iadd, 1) := by decide +kernel
theorem dL_law_542 : decode cL_law 542 = .ok (.iaload, 1) := by decide +kernel
theorem dL_law_543 : decode cL_law 543 = .ok (.invokevirtual 68, 3) := by decide +kernel
theorem dL_law_546 : decode cL_law 546 = .ok (.aload_n 2, 1) := by decide +kernel
theorem dL_law_547 : decode cL_law 547 = .ok (.aload_n 0, 1) := by decide +kernel
theorem dL_law_548 : decode cL_law 548 = .ok (.iload_n 3, 1) := by decide +kernel
theorem dL_law_549 : decode cL_law 549 = .ok (.iconst 1, 1) := by decide +kernel
theorem dL_law_550 : decode cL_law 550 = .ok (.iadd, 1) := by decide +kernel
theorem dL_law_551 : decode cL_law 551 = .ok (.iaload, 1) := by decide +kernel
theorem dL_law_552 : decode cL_law 552 = .ok (.invokevirtual 71, 3) := by decide +kernel
theorem dL_law_555 : decode cL_law 555 = .ok (.if_icmp .eq 198, 3) := by decide +kernel
theorem dL_law_558 : decode cL_law 558 = .ok (.iconst 0, 1) := by decide +kernel
theorem dL_law_559 : decode cL_law 559 = .ok (.ireturn, 1) := by decide +kernel
theorem dL_law_560 : decode cL_law 560 = .ok (.aload_n 1, 1) := by decide +kernel
theorem dL_law_561 : decode cL_law 561 = .ok (.aload_n 0, 1) := by decide +kernel
theorem dL_law_562 : decode cL_law 562 = .ok (.iload_n 3, 1) := by decide +kernel
theorem dL_law_563 : decode cL_law 563 = .ok (.iconst 1, 1) := by decide +kernel
theorem dL_law_564 : decode cL_law 564 = .ok (.iadd, 1) := by decide +kernel
theorem dL_law_565 : decode cL_law 565 = .ok (.iaload, 1) := by decide +kernel
theorem dL_law_566 : decode cL_law 566 = .ok (.invokevirtual 72, 3) := by decide +kernel
theorem dL_law_569 : decode cL_law 569 = .ok (.aload_n 2, 1) := by decide +kernel
theorem dL_law_570 : decode cL_law 570 = .ok (.aload_n 0, 1) := by decide +kernel
theorem dL_law_571 : decode cL_law 571 = .ok (.iload_n 3, 1) := by decide +kernel
theorem dL_law_572 : decode cL_law 572 = .ok (.iconst 1, 1) := by decide +kernel
theorem dL_law_573 : decode cL_law 573 = .ok (.iadd, 1) := by decide +kernel
theorem dL_law_574 : decode cL_law 574 = .ok (.iaload, 1) := by decide +kernel
theorem dL_law_575 : decode cL_law 575 = .ok (.invokevirtual 75, 3) := by decide +kernel
theorem dL_law_578 : decode cL_law 578 = .ok (.if_icmp .eq 175, 3) := by decide +kernel
theorem dL_law_581 : decode cL_law 581 = .ok (.iconst 0, 1) := by decide +kernel
theorem dL_law_582 : decode cL_law 582 = .ok (.ireturn, 1) := by decide +kernel
theorem dL_law_583 : decode cL_law 583 = .ok (.aload_n 1, 1) := by decide +kernel
theorem dL_law_584 : decode cL_law 584 = .ok (.aload_n 0, 1) := by decide +kernel
theorem dL_law_585 : decode cL_law 585 = .ok (.iload_n 3, 1) := by decide +kernel
theorem dL_law_586 : decode cL_law 586 = .ok (.iconst 1, 1) := by decide +kernel
theorem dL_law_587 : decode cL_law 587 = .ok (.iadd, 1) := by decide +kernel
theorem dL_law_588 : decode cL_law 588 = .ok (.iaload, 1) := by decide +kernel
theorem dL_law_589 : decode cL_law 589 = .ok (.aload_n 0, 1) := by decide +kernel
theorem dL_law_590 : decode cL_law 590 = .ok (.iload_n 3, 1) := by decide +kernel
theorem dL_law_591 : decode cL_law 591 = .ok (.iconst 2, 1) := by decide +kernel
theorem dL_law_592 : decode cL_law 592 = .ok (.iadd, 1) := by decide +kernel
theorem dL_law_593 : decode cL_law 593 = .ok (.iaload, 1) := by decide +kernel
theorem dL_law_594 : decode cL_law 594 = .ok (.invokevirtual 76, 3) := by decide +kernel
theorem dL_law_597 : decode cL_law 597 = .ok (.aload_n 2, 1) := by decide +kernel
theorem dL_law_598 : decode cL_law 598 = .ok (.aload_n 0, 1) := by decide +kernel
theorem dL_law_599 : decode cL_law 599 = .ok (.iload_n 3, 1) := by decide +kernel
theorem dL_law_600 : decode cL_law 600 = .ok (.iconst 1, 1) := by decide +kernel
theorem dL_law_601 : decode cL_law 601 = .ok (.iadd, 1) := by decide +kernel
theorem dL_law_602 : decode cL_law 602 = .ok (.iaload, 1) := by decide +kernel
theorem dL_law_603 : decode cL_law 603 = .ok (.aload_n 0, 1) := by decide +kernel
theorem dL_law_604 : decode cL_law 604 = .ok (.iload_n 3, 1) := by decide +kernel
theorem dL_law_605 : decode cL_law 605 = .ok (.iconst 2, 1) := by decide +kernel
theorem dL_law_606 : decode cL_law 606 = .ok (.iadd, 1) := by decide +kernel
theorem dL_law_607 : decode cL_law 607 = .ok (.iaload, 1) := by decide +kernel
theorem dL_law_608 : decode cL_law 608 = .ok (.invokevirtual 79, 3) := by decide +kernel
theorem dL_law_611 : decode cL_law 611 = .ok (.if_icmp .eq 142, 3) := by decide +kernel
theorem dL_law_614 : decode cL_law 614 = .ok (.iconst 0, 1) := by decide +kernel
theorem dL_law_615 : decode cL_law 615 = .ok (.ireturn, 1) := by decide +kernel
theorem dL_law_616 : decode cL_law 616 = .ok (.aload_n 1, 1) := by decide +kernel
theorem dL_law_617 : decode cL_law 617 = .ok (.invokevirtual 80, 3) := by decide +kernel
theorem dL_law_620 : decode cL_law 620 = .ok (.aload_n 2, 1) := by decide +kernel
theorem dL_law_621 : decode cL_law 621 = .ok (.invokevirtual 84, 3) := by decide +kernel
theorem dL_law_624 : decode cL_law 624 = .ok (.if_icmp .eq 129, 3) := by decide +kernel
theorem dL_law_627 : decode cL_law 627 = .ok (.iconst 0, 1) := by decide +kernel
theorem dL_law_628 : decode cL_law 628 = .ok (.ireturn, 1) := by decide +kernel
theorem dL_law_629 : decode cL_law 629 = .ok (.aload_n 1, 1) := by decide +kernel
theorem dL_law_630 : decode cL_law 630 = .ok (.invokevirtual 85, 3) := by decide +kernel
theorem dL_law_633 : decode cL_law 633 = .ok (.aload_n 2, 1) := by decide +kernel
theorem dL_law_634 : decode cL_law 634 = .ok (.invokevirtual 88, 3) := by decide +kernel
theorem dL_law_637 : decode cL_law 637 = .ok (.if_icmp .eq 116, 3) := by decide +kernel
theorem dL_law_640 : decode cL_law 640 = .ok (.iconst 0, 1) := by decide +kernel
theorem dL_law_641 : decode cL_law 641 = .ok (.ireturn, 1) := by decide +kernel
theorem dL_law_642 : decode cL_law 642 = .ok (.aload_n 1, 1) := by decide +kernel
theorem dL_law_643 : decode cL_law 643 = .ok (.invokevirtual 89, 3) := by decide +kernel
theorem dL_law_646 : decode cL_law 646 = .ok (.aload_n 2, 1) := by decide +kernel
theorem dL_law_647 : decode cL_law 647 = .ok (.invokevirtual 92, 3) := by decide +kernel
theorem dL_law_650 : decode cL_law 650 = .ok (.if_icmp .eq 103, 3) := by decide +kernel
theorem dL_law_653 : decode cL_law 653 = .ok (.iconst 0, 1) := by decide +kernel
theorem dL_law_654 : decode cL_law 654 = .ok (.ireturn, 1) := by decide +kernel
theorem dL_law_655 : decode cL_law 655 = .ok (.aload_n 1, 1) := by decide +kernel
theorem dL_law_656 : decode cL_law 656 = .ok (.invokevirtual 93, 3) := by decide +kernel
theorem dL_law_659 : decode cL_law 659 = .ok (.aload_n 2, 1) := by decide +kernel
theorem dL_law_660 : decode cL_law 660 = .ok (.invokevirtual 96, 3) := by decide +kernel
theorem dL_law_663 : decode cL_law 663 = .ok (.if_icmp .eq 90, 3) := by decide +kernel
theorem dL_law_666 : decode cL_law 666 = .ok (.iconst 0, 1) := by decide +kernel
theorem dL_law_667 : decode cL_law 667 = .ok (.ireturn, 1) := by decide +kernel
theorem dL_law_668 : decode cL_law 668 = .ok (.aload_n 1, 1) := by decide +kernel
theorem dL_law_669 : decode cL_law 669 = .ok (.invokevirtual 97, 3) := by decide +kernel
theorem dL_law_672 : decode cL_law 672 = .ok (.aload_n 2, 1) := by decide +kernel
theorem dL_law_673 : decode cL_law 673 = .ok (.invokevirtual 100, 3) := by decide +kernel
theorem dL_law_676 : decode cL_law 676 = .ok (.if_icmp .eq 77, 3) := by decide +kernel
theorem dL_law_679 : decode cL_law 679 = .ok (.iconst 0, 1) := by decide +kernel
theorem dL_law_680 : decode cL_law 680 = .ok (.ireturn, 1) := by decide +kernel
theorem dL_law_681 : decode cL_law 681 = .ok (.aload_n 1, 1) := by decide +kernel
theorem dL_law_682 : decode cL_law 682 = .ok (.aload_n 0, 1) := by decide +kernel
theorem dL_law_683 : decode cL_law 683 = .ok (.iload_n 3, 1) := by decide +kernel
theorem dL_law_684 : decode cL_law 684 = .ok (.iconst 1, 1) := by decide +kernel
theorem dL_law_685 : decode cL_law 685 = .ok (.iadd, 1) := by decide +kernel
theorem dL_law_686 : decode cL_law 686 = .ok (.iaload, 1) := by decide +kernel
theorem dL_law_687 : decode cL_law 687 = .ok (.invokevirtual 101, 3) := by decide +kernel
theorem dL_law_690 : decode cL_law 690 = .ok (.aload_n 2, 1) := by decide +kernel
theorem dL_law_691 : decode cL_law 691 = .ok (.aload_n 0, 1) := by decide +kernel
theorem dL_law_692 : decode cL_law 692 = .ok (.iload_n 3, 1) := by decide +kernel
theorem dL_law_693 : decode cL_law 693 = .ok (.iconst 1, 1) := by decide +kernel
theorem dL_law_694 : decode cL_law 694 = .ok (.iadd, 1) := by decide +kernel
theorem dL_law_695 : decode cL_law 695 = .ok (.iaload, 1) := by decide +kernel
theorem dL_law_696 : decode cL_law 696 = .ok (.invokevirtual 104, 3) := by decide +kernel
theorem dL_law_699 : decode cL_law 699 = .ok (.if_icmp .eq 54, 3) := by decide +kernel
theorem dL_law_702 : decode cL_law 702 = .ok (.iconst 0, 1) := by decide +kernel
theorem dL_law_703 : decode cL_law 703 = .ok (.ireturn, 1) := by decide +kernel
theorem dL_law_704 : decode cL_law 704 = .ok (.aload_n 1, 1) := by decide +kernel
theorem dL_law_705 : decode cL_law 705 = .ok (.invokevirtual 105, 3) := by decide +kernel
theorem dL_law_708 : decode cL_law 708 = .ok (.aload_n 2, 1) := by decide +kernel
theorem dL_law_709 : decode cL_law 709 = .ok (.invokevirtual 108, 3) := by decide +kernel
theorem dL_law_712 : decode cL_law 712 = .ok (.if_icmp .eq 41, 3) := by decide +kernel
theorem dL_law_715 : decode cL_law 715 = .ok (.iconst 0, 1) := by decide +kernel
theorem dL_law_716 : decode cL_law 716 = .ok (.ireturn, 1) := by decide +kernel
theorem dL_law_717 : decode cL_law 717 = .ok (.aload_n 1, 1) := by decide +kernel
theorem dL_law_718 : decode cL_law 718 = .ok (.aload_n 0, 1) := by decide +kernel
theorem dL_law_719 : decode cL_law 719 = .ok (.iload_n 3, 1) := by decide +kernel
theorem dL_law_720 : decode cL_law 720 = .ok (.iconst 1, 1) := by decide +kernel
theorem dL_law_721 : decode cL_law 721 = .ok (.iadd, 1) := by decide +kernel
theorem dL_law_722 : decode cL_law 722 = .ok (.iaload, 1) := by decide +kernel
theorem dL_law_723 : decode cL_law 723 = .ok (.invokevirtual 109, 3) := by decide +kernel
theorem dL_law_726 : decode cL_law 726 = .ok (.aload_n 2, 1) := by decide +kernel
theorem dL_law_727 : decode cL_law 727 = .ok (.aload_n 0, 1) := by decide +kernel
theorem dL_law_728 : decode cL_law 728 = .ok (.iload_n 3, 1) := by decide +kernel
theorem dL_law_729 : decode cL_law 729 = .ok (.iconst 1, 1) := by decide +kernel
theorem dL_law_730 : decode cL_law 730 = .ok (.iadd, 1) := by decide +kernel
theorem dL_law_731 : decode cL_law 731 = .ok (.iaload, 1) := by decide +kernel
theorem dL_law_732 : decode cL_law 732 = .ok (.invokevirtual 112, 3) := by decide +kernel
theorem dL_law_735 : decode cL_law 735 = .ok (.if_icmp .eq 18, 3) := by decide +kernel
theorem dL_law_738 : decode cL_law 738 = .ok (.iconst 0, 1) := by decide +kernel
theorem dL_law_739 : decode cL_law 739 = .ok (.ireturn, 1) := by decide +kernel
theorem dL_law_740 : decode cL_law 740 = .ok (.aload_n 1, 1) := by decide +kernel
theorem dL_law_741 : decode cL_law 741 = .ok (.invokevirtual 113, 3) := by decide +kernel
theorem dL_law_744 : decode cL_law 744 = .ok (.aload_n 2, 1) := by decide +kernel
theorem dL_law_745 : decode cL_law 745 = .ok (.invokevirtual 116, 3) := by decide +kernel
theorem dL_law_748 : decode cL_law 748 = .ok (.if_icmp .eq 5, 3) := by decide +kernel
theorem dL_law_751 : decode cL_law 751 = .ok (.iconst 0, 1) := by decide +kernel
theorem dL_law_752 : decode cL_law 752 = .ok (.ireturn, 1) := by decide +kernel
theorem dL_law_753 : decode cL_law 753 = .ok (.iinc 3 4, 3) := by decide +kernel
theorem dL_law_756 : decode cL_law 756 = .ok (.goto (-738), 3) := by decide +kernel
theorem dL_law_759 : decode cL_law 759 = .ok (.iconst 1, 1) := by decide +kernel
theorem dL_law_760 : decode cL_law 760 = .ok (.ireturn, 1) := by decide +kernel
