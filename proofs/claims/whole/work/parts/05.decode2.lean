theorem dX8_set_11 : decode cX8_set 11 = .ok (.ifCond .ne 5, 3) := by decide +kernel
theorem dX8_set_14 : decode cX8_set 14 = .ok (.iconst (-1), 1) := by decide +kernel
theorem dX8_set_15 : decode cX8_set 15 = .ok (.ireturn, 1) := by decide +kernel
theorem dX8_set_16 : decode cX8_set 16 = .ok (.aload_n 0, 1) := by decide +kernel
theorem dX8_set_17 : decode cX8_set 17 = .ok (.getfield 10, 3) := by decide +kernel
theorem dX8_set_20 : decode cX8_set 20 = .ok (.getfield 51, 3) := by decide +kernel
theorem dX8_set_23 : decode cX8_set 23 = .ok (.getfield 55, 3) := by decide +kernel
theorem dX8_set_26 : decode cX8_set 26 = .ok (.ifCond .eq 6, 3) := by decide +kernel
theorem dX8_set_29 : decode cX8_set 29 = .ok (.bipush (-2), 2) := by decide +kernel
theorem dX8_set_31 : decode cX8_set 31 = .ok (.ireturn, 1) := by decide +kernel
theorem dX8_set_32 : decode cX8_set 32 = .ok (.aload_n 0, 1) := by decide +kernel
theorem dX8_set_33 : decode cX8_set 33 = .ok (.getfield 22, 3) := by decide +kernel
theorem dX8_set_36 : decode cX8_set 36 = .ok (.aload_n 0, 1) := by decide +kernel
theorem dX8_set_37 : decode cX8_set 37 = .ok (.getfield 10, 3) := by decide +kernel
theorem dX8_set_40 : decode cX8_set 40 = .ok (.invokevirtual 60, 3) := by decide +kernel
theorem dX8_set_43 : decode cX8_set 43 = .ok (.aload_n 0, 1) := by decide +kernel
theorem dX8_set_44 : decode cX8_set 44 = .ok (.getfield 10, 3) := by decide +kernel
theorem dX8_set_47 : decode cX8_set 47 = .ok (.getfield 97, 3) := by decide +kernel
theorem dX8_set_50 : decode cX8_set 50 = .ok (.istore_n 3, 1) := by decide +kernel
theorem dX8_set_51 : decode cX8_set 51 = .ok (.aload_n 0, 1) := by decide +kernel
theorem dX8_set_52 : decode cX8_set 52 = .ok (.getfield 10, 3) := by decide +kernel
theorem dX8_set_55 : decode cX8_set 55 = .ok (.iload_n 2, 1) := by decide +kernel
theorem dX8_set_56 : decode cX8_set 56 = .ok (.putfield 97, 3) := by decide +kernel
theorem dX8_set_59 : decode cX8_set 59 = .ok (.iload_n 3, 1) := by decide +kernel
theorem dX8_set_60 : decode cX8_set 60 = .ok (.ireturn, 1) := by decide +kernel
theorem dX8_seed_0 : decode cX8_seed 0 = .ok (.iload_n 1, 1) := by decide +kernel
theorem dX8_seed_1 : decode cX8_seed 1 = .ok (.ifCond .ge 5, 3) := by decide +kernel
theorem dX8_seed_4 : decode cX8_seed 4 = .ok (.iconst (-1), 1) := by decide +kernel
theorem dX8_seed_5 : decode cX8_seed 5 = .ok (.ireturn, 1) := by decide +kernel
theorem dX8_seed_6 : decode cX8_seed 6 = .ok (.aload_n 0, 1) := by decide +kernel
theorem dX8_seed_7 : decode cX8_seed 7 = .ok (.getfield 22, 3) := by decide +kernel
theorem dX8_seed_10 : decode cX8_seed 10 = .ok (.aload_n 0, 1) := by decide +kernel
theorem dX8_seed_11 : decode cX8_seed 11 = .ok (.getfield 10, 3) := by decide +kernel
theorem dX8_seed_14 : decode cX8_seed 14 = .ok (.invokevirtual 60, 3) := by decide +kernel
theorem dX8_seed_17 : decode cX8_seed 17 = .ok (.aload_n 0, 1) := by decide +kernel
theorem dX8_seed_18 : decode cX8_seed 18 = .ok (.getfield 10, 3) := by decide +kernel
theorem dX8_seed_21 : decode cX8_seed 21 = .ok (.getfield 100, 3) := by decide +kernel
theorem dX8_seed_24 : decode cX8_seed 24 = .ok (.istore_n 2, 1) := by decide +kernel
theorem dX8_seed_25 : decode cX8_seed 25 = .ok (.aload_n 0, 1) := by decide +kernel
theorem dX8_seed_26 : decode cX8_seed 26 = .ok (.getfield 10, 3) := by decide +kernel
theorem dX8_seed_29 : decode cX8_seed 29 = .ok (.iload_n 1, 1) := by decide +kernel
theorem dX8_seed_30 : decode cX8_seed 30 = .ok (.putfield 100, 3) := by decide +kernel
theorem dX8_seed_33 : decode cX8_seed 33 = .ok (.iload_n 2, 1) := by decide +kernel
theorem dX8_seed_34 : decode cX8_seed 34 = .ok (.ireturn, 1) := by decide +kernel
theorem dX8_begin_0 : decode cX8_begin 0 = .ok (.iload_n 1, 1) := by decide +kernel
theorem dX8_begin_1 : decode cX8_begin 1 = .ok (.iconst 1, 1) := by decide +kernel
theorem dX8_begin_2 : decode cX8_begin 2 = .ok (.bipush 50, 2) := by decide +kernel
theorem dX8_begin_4 : decode cX8_begin 4 = .ok (.invokestatic 47, 3) := by decide +kernel
theorem dX8_begin_7 : decode cX8_begin 7 = .ok (.ifCond .ne 5, 3) := by decide +kernel
theorem dX8_begin_10 : decode cX8_begin 10 = .ok (.iconst (-1), 1) := by decide +kernel
theorem dX8_begin_11 : decode cX8_begin 11 = .ok (.ireturn, 1) := by decide +kernel
theorem dX8_begin_12 : decode cX8_begin 12 = .ok (.aload_n 0, 1) := by decide +kernel
theorem dX8_begin_13 : decode cX8_begin 13 = .ok (.getfield 10, 3) := by decide +kernel
theorem dX8_begin_16 : decode cX8_begin 16 = .ok (.iload_n 1, 1) := by decide +kernel
theorem dX8_begin_17 : decode cX8_begin 17 = .ok (.invokevirtual 103, 3) := by decide +kernel
theorem dX8_begin_20 : decode cX8_begin 20 = .ok (.ifCond .ne 6, 3) := by decide +kernel
theorem dX8_begin_23 : decode cX8_begin 23 = .ok (.bipush (-2), 2) := by decide +kernel
theorem dX8_begin_25 : decode cX8_begin 25 = .ok (.ireturn, 1) := by decide +kernel
theorem dX8_begin_26 : decode cX8_begin 26 = .ok (.aload_n 0, 1) := by decide +kernel
theorem dX8_begin_27 : decode cX8_begin 27 = .ok (.getfield 22, 3) := by decide +kernel
theorem dX8_begin_30 : decode cX8_begin 30 = .ok (.aload_n 0, 1) := by decide +kernel
theorem dX8_begin_31 : decode cX8_begin 31 = .ok (.getfield 10, 3) := by decide +kernel
theorem dX8_begin_34 : decode cX8_begin 34 = .ok (.invokevirtual 60, 3) := by decide +kernel
theorem dX8_begin_37 : decode cX8_begin 37 = .ok (.aload_n 0, 1) := by decide +kernel
theorem dX8_begin_38 : decode cX8_begin 38 = .ok (.getfield 10, 3) := by decide +kernel
theorem dX8_begin_41 : decode cX8_begin 41 = .ok (.iload_n 1, 1) := by decide +kernel
theorem dX8_begin_42 : decode cX8_begin 42 = .ok (.invokevirtual 106, 3) := by decide +kernel
theorem dX8_begin_45 : decode cX8_begin 45 = .ok (.aload_n 0, 1) := by decide +kernel
theorem dX8_begin_46 : decode cX8_begin 46 = .ok (.getfield 10, 3) := by decide +kernel
theorem dX8_begin_49 : decode cX8_begin 49 = .ok (.getfield 37, 3) := by decide +kernel
theorem dX8_begin_52 : decode cX8_begin 52 = .ok (.getfield 110, 3) := by decide +kernel
theorem dX8_begin_55 : decode cX8_begin 55 = .ok (.aload_n 0, 1) := by decide +kernel
theorem dX8_begin_56 : decode cX8_begin 56 = .ok (.getfield 10, 3) := by decide +kernel
theorem dX8_begin_59 : decode cX8_begin 59 = .ok (.getfield 51, 3) := by decide +kernel
theorem dX8_begin_62 : decode cX8_begin 62 = .ok (.getfield 113, 3) := by decide +kernel
theorem dX8_begin_65 : decode cX8_begin 65 = .ok (.invokevirtual 68, 3) := by decide +kernel
theorem dX8_begin_68 : decode cX8_begin 68 = .ok (.ireturn, 1) := by decide +kernel
theorem dX8_guess_0 : decode cX8_guess 0 = .ok (.iload_n 1, 1) := by decide +kernel
theorem dX8_guess_1 : decode cX8_guess 1 = .ok (.invokestatic 116, 3) := by decide +kernel
theorem dX8_guess_4 : decode cX8_guess 4 = .ok (.ifCond .ne 5, 3) := by decide +kernel
theorem dX8_guess_7 : decode cX8_guess 7 = .ok (.iconst (-1), 1) := by decide +kernel
theorem dX8_guess_8 : decode cX8_guess 8 = .ok (.ireturn, 1) := by decide +kernel
theorem dX8_guess_9 : decode cX8_guess 9 = .ok (.aload_n 0, 1) := by decide +kernel
theorem dX8_guess_10 : decode cX8_guess 10 = .ok (.getfield 10, 3) := by decide +kernel
theorem dX8_guess_13 : decode cX8_guess 13 = .ok (.getfield 51, 3) := by decide +kernel
theorem dX8_guess_16 : decode cX8_guess 16 = .ok (.iload_n 1, 1) := by decide +kernel
theorem dX8_guess_17 : decode cX8_guess 17 = .ok (.invokevirtual 119, 3) := by decide +kernel
theorem dX8_guess_20 : decode cX8_guess 20 = .ok (.ifCond .ne 6, 3) := by decide +kernel
theorem dX8_guess_23 : decode cX8_guess 23 = .ok (.bipush (-2), 2) := by decide +kernel
theorem dX8_guess_25 : decode cX8_guess 25 = .ok (.ireturn, 1) := by decide +kernel
theorem dX8_guess_26 : decode cX8_guess 26 = .ok (.aload_n 0, 1) := by decide +kernel
theorem dX8_guess_27 : decode cX8_guess 27 = .ok (.getfield 22, 3) := by decide +kernel
theorem dX8_guess_30 : decode cX8_guess 30 = .ok (.aload_n 0, 1) := by decide +kernel
theorem dX8_guess_31 : decode cX8_guess 31 = .ok (.getfield 10, 3) := by decide +kernel
theorem dX8_guess_34 : decode cX8_guess 34 = .ok (.invokevirtual 60, 3) := by decide +kernel
theorem dX8_guess_37 : decode cX8_guess 37 = .ok (.aload_n 0, 1) := by decide +kernel
theorem dX8_guess_38 : decode cX8_guess 38 = .ok (.getfield 10, 3) := by decide +kernel
theorem dX8_guess_41 : decode cX8_guess 41 = .ok (.iload_n 1, 1) := by decide +kernel
theorem dX8_guess_42 : decode cX8_guess 42 = .ok (.invokevirtual 122, 3) := by decide +kernel
theorem dX8_guess_45 : decode cX8_guess 45 = .ok (.ireturn, 1) := by decide +kernel
theorem dX8_tell_0 : decode cX8_tell 0 = .ok (.aload_n 0, 1) := by decide +kernel
theorem dX8_tell_1 : decode cX8_tell 1 = .ok (.getfield 10, 3) := by decide +kernel
theorem dX8_tell_4 : decode cX8_tell 4 = .ok (.getfield 37, 3) := by decide +kernel
theorem dX8_tell_7 : decode cX8_tell 7 = .ok (.iload_n 1, 1) := by decide +kernel
theorem dX8_tell_8 : decode cX8_tell 8 = .ok (.invokevirtual 41, 3) := by decide +kernel
theorem dX8_tell_11 : decode cX8_tell 11 = .ok (.ifCond .ne 5, 3) := by decide +kernel
theorem dX8_tell_14 : decode cX8_tell 14 = .ok (.iconst (-1), 1) := by decide +kernel
theorem dX8_tell_15 : decode cX8_tell 15 = .ok (.ireturn, 1) := by decide +kernel
theorem dX8_tell_16 : decode cX8_tell 16 = .ok (.aload_n 0, 1) := by decide +kernel
theorem dX8_tell_17 : decode cX8_tell 17 = .ok (.getfield 10, 3) := by decide +kernel
theorem dX8_tell_20 : decode cX8_tell 20 = .ok (.getfield 51, 3) := by decide +kernel
theorem dX8_tell_23 : decode cX8_tell 23 = .ok (.getfield 55, 3) := by decide +kernel
theorem dX8_tell_26 : decode cX8_tell 26 = .ok (.ifCond .ne 6, 3) := by decide +kernel
theorem dX8_tell_29 : decode cX8_tell 29 = .ok (.bipush (-2), 2) := by decide +kernel
theorem dX8_tell_31 : decode cX8_tell 31 = .ok (.ireturn, 1) := by decide +kernel
theorem dX8_tell_32 : decode cX8_tell 32 = .ok (.aload_n 0, 1) := by decide +kernel
theorem dX8_tell_33 : decode cX8_tell 33 = .ok (.getfield 22, 3) := by decide +kernel
theorem dX8_tell_36 : decode cX8_tell 36 = .ok (.aload_n 0, 1) := by decide +kernel
theorem dX8_tell_37 : decode cX8_tell 37 = .ok (.getfield 10, 3) := by decide +kernel
theorem dX8_tell_40 : decode cX8_tell 40 = .ok (.invokevirtual 60, 3) := by decide +kernel
theorem dX8_tell_43 : decode cX8_tell 43 = .ok (.aload_n 0, 1) := by decide +kernel
theorem dX8_tell_44 : decode cX8_tell 44 = .ok (.getfield 10, 3) := by decide +kernel
theorem dX8_tell_47 : decode cX8_tell 47 = .ok (.iload_n 1, 1) := by decide +kernel
theorem dX8_tell_48 : decode cX8_tell 48 = .ok (.invokevirtual 125, 3) := by decide +kernel
theorem dX8_tell_51 : decode cX8_tell 51 = .ok (.ifCond .eq 7, 3) := by decide +kernel
theorem dX8_tell_54 : decode cX8_tell 54 = .ok (.iconst 1, 1) := by decide +kernel
theorem dX8_tell_55 : decode cX8_tell 55 = .ok (.goto 4, 3) := by decide +kernel
theorem dX8_tell_58 : decode cX8_tell 58 = .ok (.iconst 0, 1) := by decide +kernel
theorem dX8_tell_59 : decode cX8_tell 59 = .ok (.ireturn, 1) := by decide +kernel
theorem dX8_whisper_0 : decode cX8_whisper 0 = .ok (.aload_n 0, 1) := by decide +kernel
theorem dX8_whisper_1 : decode cX8_whisper 1 = .ok (.getfield 10, 3) := by decide +kernel
theorem dX8_whisper_4 : decode cX8_whisper 4 = .ok (.getfield 78, 3) := by decide +kernel
theorem dX8_whisper_7 : decode cX8_whisper 7 = .ok (.iload_n 1, 1) := by decide +kernel
theorem dX8_whisper_8 : decode cX8_whisper 8 = .ok (.invokevirtual 91, 3) := by decide +kernel
theorem dX8_whisper_11 : decode cX8_whisper 11 = .ok (.ifCond .eq 24, 3) := by decide +kernel
theorem dX8_whisper_14 : decode cX8_whisper 14 = .ok (.aload_n 0, 1) := by decide +kernel
theorem dX8_whisper_15 : decode cX8_whisper 15 = .ok (.getfield 10, 3) := by decide +kernel
theorem dX8_whisper_18 : decode cX8_whisper 18 = .ok (.getfield 78, 3) := by decide +kernel
theorem dX8_whisper_21 : decode cX8_whisper 21 = .ok (.iload_n 2, 1) := by decide +kernel
theorem dX8_whisper_22 : decode cX8_whisper 22 = .ok (.invokevirtual 91, 3) := by decide +kernel
theorem dX8_whisper_25 : decode cX8_whisper 25 = .ok (.ifCond .eq 10, 3) := by decide +kernel
theorem dX8_whisper_28 : decode cX8_whisper 28 = .ok (.iload_n 3, 1) := by decide +kernel
theorem dX8_whisper_29 : decode cX8_whisper 29 = .ok (.invokestatic 116, 3) := by decide +kernel
theorem dX8_whisper_32 : decode cX8_whisper 32 = .ok (.ifCond .ne 5, 3) := by decide +kernel
theorem dX8_whisper_35 : decode cX8_whisper 35 = .ok (.iconst (-1), 1) := by decide +kernel
theorem dX8_whisper_36 : decode cX8_whisper 36 = .ok (.ireturn, 1) := by decide +kernel
theorem dX8_whisper_37 : decode cX8_whisper 37 = .ok (.aload_n 0, 1) := by decide +kernel
theorem dX8_whisper_38 : decode cX8_whisper 38 = .ok (.getfield 10, 3) := by decide +kernel
theorem dX8_whisper_41 : decode cX8_whisper 41 = .ok (.getfield 51, 3) := by decide +kernel
theorem dX8_whisper_44 : decode cX8_whisper 44 = .ok (.iload_n 3, 1) := by decide +kernel
theorem dX8_whisper_45 : decode cX8_whisper 45 = .ok (.invokevirtual 119, 3) := by decide +kernel
theorem dX8_whisper_48 : decode cX8_whisper 48 = .ok (.ifCond .eq 13, 3) := by decide +kernel
theorem dX8_whisper_51 : decode cX8_whisper 51 = .ok (.iload_n 1, 1) := by decide +kernel
theorem dX8_whisper_52 : decode cX8_whisper 52 = .ok (.iload_n 2, 1) := by decide +kernel
theorem dX8_whisper_53 : decode cX8_whisper 53 = .ok (.isub, 1) := by decide +kernel
theorem dX8_whisper_54 : decode cX8_whisper 54 = .ok (.invokestatic 128, 3) := by decide +kernel
theorem dX8_whisper_57 : decode cX8_whisper 57 = .ok (.iconst 1, 1) := by decide +kernel
theorem dX8_whisper_58 : decode cX8_whisper 58 = .ok (.if_icmp .eq 6, 3) := by decide +kernel
theorem dX8_whisper_61 : decode cX8_whisper 61 = .ok (.bipush (-2), 2) := by decide +kernel
theorem dX8_whisper_63 : decode cX8_whisper 63 = .ok (.ireturn, 1) := by decide +kernel
theorem dX8_whisper_64 : decode cX8_whisper 64 = .ok (.aload_n 0, 1) := by decide +kernel
theorem dX8_whisper_65 : decode cX8_whisper 65 = .ok (.getfield 22, 3) := by decide +kernel
theorem dX8_whisper_68 : decode cX8_whisper 68 = .ok (.aload_n 0, 1) := by decide +kernel
theorem dX8_whisper_69 : decode cX8_whisper 69 = .ok (.getfield 10, 3) := by decide +kernel
theorem dX8_whisper_72 : decode cX8_whisper 72 = .ok (.invokevirtual 60, 3) := by decide +kernel
theorem dX8_whisper_75 : decode cX8_whisper 75 = .ok (.aload_n 0, 1) := by decide +kernel
theorem dX8_whisper_76 : decode cX8_whisper 76 = .ok (.getfield 10, 3) := by decide +kernel
theorem dX8_whisper_79 : decode cX8_whisper 79 = .ok (.getfield 78, 3) := by decide +kernel
theorem dX8_whisper_82 : decode cX8_whisper 82 = .ok (.getfield 133, 3) := by decide +kernel
theorem dX8_whisper_85 : decode cX8_whisper 85 = .ok (.iload_n 2, 1) := by decide +kernel
theorem dX8_whisper_86 : decode cX8_whisper 86 = .ok (.invokevirtual 68, 3) := by decide +kernel
theorem dX8_whisper_89 : decode cX8_whisper 89 = .ok (.istore 4, 2) := by decide +kernel
theorem dX8_whisper_91 : decode cX8_whisper 91 = .ok (.aload_n 0, 1) := by decide +kernel
theorem dX8_whisper_92 : decode cX8_whisper 92 = .ok (.getfield 10, 3) := by decide +kernel
theorem dX8_whisper_95 : decode cX8_whisper 95 = .ok (.getfield 78, 3) := by decide +kernel
theorem dX8_whisper_98 : decode cX8_whisper 98 = .ok (.getfield 133, 3) := by decide +kernel
theorem dX8_whisper_101 : decode cX8_whisper 101 = .ok (.iload_n 2, 1) := by decide +kernel
theorem dX8_whisper_102 : decode cX8_whisper 102 = .ok (.iload_n 3, 1) := by decide +kernel
theorem dX8_whisper_103 : decode cX8_whisper 103 = .ok (.invokevirtual 74, 3) := by decide +kernel
theorem dX8_whisper_106 : decode cX8_whisper 106 = .ok (.aload_n 0, 1) := by decide +kernel
theorem dX8_whisper_107 : decode cX8_whisper 107 = .ok (.getfield 10, 3) := by decide +kernel
theorem dX8_whisper_110 : decode cX8_whisper 110 = .ok (.getfield 78, 3) := by decide +kernel
theorem dX8_whisper_113 : decode cX8_whisper 113 = .ok (.getfield 136, 3) := by decide +kernel
theorem dX8_whisper_116 : decode cX8_whisper 116 = .ok (.iload_n 2, 1) := by decide +kernel
theorem dX8_whisper_117 : decode cX8_whisper 117 = .ok (.iload_n 1, 1) := by decide +kernel
theorem dX8_whisper_118 : decode cX8_whisper 118 = .ok (.invokevirtual 74, 3) := by decide +kernel
theorem dX8_whisper_121 : decode cX8_whisper 121 = .ok (.iload 4, 2) := by decide +kernel
theorem dX8_whisper_123 : decode cX8_whisper 123 = .ok (.ireturn, 1) := by decide +kernel
theorem dX8_wordOf_0 : decode cX8_wordOf 0 = .ok (.aload_n 0, 1) := by decide +kernel
theorem dX8_wordOf_1 : decode cX8_wordOf 1 = .ok (.getfield 10, 3) := by decide +kernel
theorem dX8_wordOf_4 : decode cX8_wordOf 4 = .ok (.getfield 37, 3) := by decide +kernel
theorem dX8_wordOf_7 : decode cX8_wordOf 7 = .ok (.astore_n 3, 1) := by decide +kernel
theorem dX8_wordOf_8 : decode cX8_wordOf 8 = .ok (.aload_n 3, 1) := by decide +kernel
theorem dX8_wordOf_9 : decode cX8_wordOf 9 = .ok (.iload_n 1, 1) := by decide +kernel
theorem dX8_wordOf_10 : decode cX8_wordOf 10 = .ok (.invokevirtual 41, 3) := by decide +kernel
theorem dX8_wordOf_13 : decode cX8_wordOf 13 = .ok (.ifCond .ne 5, 3) := by decide +kernel
theorem dX8_wordOf_16 : decode cX8_wordOf 16 = .ok (.iconst (-1), 1) := by decide +kernel
theorem dX8_wordOf_17 : decode cX8_wordOf 17 = .ok (.ireturn, 1) := by decide +kernel
theorem dX8_wordOf_18 : decode cX8_wordOf 18 = .ok (.iload_n 2, 1) := by decide +kernel
theorem dX8_wordOf_19 : decode cX8_wordOf 19 = .ok (.tableswitch 72 0 4 #[33, 42, 51, 57, 66], 33) := by decide +kernel
theorem dX8_wordOf_52 : decode cX8_wordOf 52 = .ok (.aload_n 3, 1) := by decide +kernel
theorem dX8_wordOf_53 : decode cX8_wordOf 53 = .ok (.getfield 110, 3) := by decide +kernel
theorem dX8_wordOf_56 : decode cX8_wordOf 56 = .ok (.iload_n 1, 1) := by decide +kernel
theorem dX8_wordOf_57 : decode cX8_wordOf 57 = .ok (.invokevirtual 68, 3) := by decide +kernel
theorem dX8_wordOf_60 : decode cX8_wordOf 60 = .ok (.ireturn, 1) := by decide +kernel
theorem dX8_wordOf_61 : decode cX8_wordOf 61 = .ok (.aload_n 3, 1) := by decide +kernel
theorem dX8_wordOf_62 : decode cX8_wordOf 62 = .ok (.getfield 64, 3) := by decide +kernel
theorem dX8_wordOf_65 : decode cX8_wordOf 65 = .ok (.iload_n 1, 1) := by decide +kernel
theorem dX8_wordOf_66 : decode cX8_wordOf 66 = .ok (.invokevirtual 68, 3) := by decide +kernel
theorem dX8_wordOf_69 : decode cX8_wordOf 69 = .ok (.ireturn, 1) := by decide +kernel
theorem dX8_wordOf_70 : decode cX8_wordOf 70 = .ok (.aload_n 3, 1) := by decide +kernel
theorem dX8_wordOf_71 : decode cX8_wordOf 71 = .ok (.iload_n 1, 1) := by decide +kernel
theorem dX8_wordOf_72 : decode cX8_wordOf 72 = .ok (.invokevirtual 139, 3) := by decide +kernel
theorem dX8_wordOf_75 : decode cX8_wordOf 75 = .ok (.ireturn, 1) := by decide +kernel
theorem dX8_wordOf_76 : decode cX8_wordOf 76 = .ok (.aload_n 3, 1) := by decide +kernel
theorem dX8_wordOf_77 : decode cX8_wordOf 77 = .ok (.getfield 142, 3) := by decide +kernel
theorem dX8_wordOf_80 : decode cX8_wordOf 80 = .ok (.iload_n 1, 1) := by decide +kernel
theorem dX8_wordOf_81 : decode cX8_wordOf 81 = .ok (.invokevirtual 68, 3) := by decide +kernel
theorem dX8_wordOf_84 : decode cX8_wordOf 84 = .ok (.ireturn, 1) := by decide +kernel
theorem dX8_wordOf_85 : decode cX8_wordOf 85 = .ok (.aload_n 0, 1) := by decide +kernel
theorem dX8_wordOf_86 : decode cX8_wordOf 86 = .ok (.iload_n 1, 1) := by decide +kernel
theorem dX8_wordOf_87 : decode cX8_wordOf 87 = .ok (.invokevirtual 145, 3) := by decide +kernel
theorem dX8_wordOf_90 : decode cX8_wordOf 90 = .ok (.ireturn, 1) := by decide +kernel
theorem dX8_wordOf_91 : decode cX8_wordOf 91 = .ok (.aload_n 0, 1) := by decide +kernel
theorem dX8_wordOf_92 : decode cX8_wordOf 92 = .ok (.iload_n 1, 1) := by decide +kernel
theorem dX8_wordOf_93 : decode cX8_wordOf 93 = .ok (.iload_n 2, 1) := by decide +kernel
theorem dX8_wordOf_94 : decode cX8_wordOf 94 = .ok (.invokevirtual 148, 3) := by decide +kernel
theorem dX8_wordOf_97 : decode cX8_wordOf 97 = .ok (.ireturn, 1) := by decide +kernel
theorem dX8_playerOf_0 : decode cX8_playerOf 0 = .ok (.aload_n 0, 1) := by decide +kernel
theorem dX8_playerOf_1 : decode cX8_playerOf 1 = .ok (.getfield 10, 3) := by decide +kernel
theorem dX8_playerOf_4 : decode cX8_playerOf 4 = .ok (.getfield 78, 3) := by decide +kernel
theorem dX8_playerOf_7 : decode cX8_playerOf 7 = .ok (.astore_n 3, 1) := by decide +kernel
theorem dX8_playerOf_8 : decode cX8_playerOf 8 = .ok (.aload_n 3, 1) := by decide +kernel
theorem dX8_playerOf_9 : decode cX8_playerOf 9 = .ok (.iload_n 1, 1) := by decide +kernel
theorem dX8_playerOf_10 : decode cX8_playerOf 10 = .ok (.invokevirtual 91, 3) := by decide +kernel
theorem dX8_playerOf_13 : decode cX8_playerOf 13 = .ok (.ifCond .ne 5, 3) := by decide +kernel
theorem dX8_playerOf_16 : decode cX8_playerOf 16 = .ok (.iconst (-1), 1) := by decide +kernel
theorem dX8_playerOf_17 : decode cX8_playerOf 17 = .ok (.ireturn, 1) := by decide +kernel
theorem dX8_playerOf_18 : decode cX8_playerOf 18 = .ok (.iload_n 2, 1) := by decide +kernel
theorem dX8_playerOf_19 : decode cX8_playerOf 19 = .ok (.tableswitch 117 0 5 #[37, 46, 55, 64, 73, 95], 37) := by decide +kernel
theorem dX8_playerOf_56 : decode cX8_playerOf 56 = .ok (.aload_n 3, 1) := by decide +kernel
theorem dX8_playerOf_57 : decode cX8_playerOf 57 = .ok (.getfield 92, 3) := by decide +kernel
theorem dX8_playerOf_60 : decode cX8_playerOf 60 = .ok (.iload_n 1, 1) := by decide +kernel
theorem dX8_playerOf_61 : decode cX8_playerOf 61 = .ok (.invokevirtual 68, 3) := by decide +kernel
theorem dX8_playerOf_64 : decode cX8_playerOf 64 = .ok (.ireturn, 1) := by decide +kernel
theorem dX8_playerOf_65 : decode cX8_playerOf 65 = .ok (.aload_n 3, 1) := by decide +kernel
theorem dX8_playerOf_66 : decode cX8_playerOf 66 = .ok (.getfield 152, 3) := by decide +kernel
theorem dX8_playerOf_69 : decode cX8_playerOf 69 = .ok (.iload_n 1, 1) := by decide +kernel
theorem dX8_playerOf_70 : decode cX8_playerOf 70 = .ok (.invokevirtual 68, 3) := by decide +kernel
theorem dX8_playerOf_73 : decode cX8_playerOf 73 = .ok (.ireturn, 1) := by decide +kernel
theorem dX8_playerOf_74 : decode cX8_playerOf 74 = .ok (.aload_n 3, 1) := by decide +kernel
theorem dX8_playerOf_75 : decode cX8_playerOf 75 = .ok (.getfield 155, 3) := by decide +kernel
theorem dX8_playerOf_78 : decode cX8_playerOf 78 = .ok (.iload_n 1, 1) := by decide +kernel
theorem dX8_playerOf_79 : decode cX8_playerOf 79 = .ok (.invokevirtual 68, 3) := by decide +kernel
theorem dX8_playerOf_82 : decode cX8_playerOf 82 = .ok (.ireturn, 1) := by decide +kernel
theorem dX8_playerOf_83 : decode cX8_playerOf 83 = .ok (.aload_n 3, 1) := by decide +kernel
theorem dX8_playerOf_84 : decode cX8_playerOf 84 = .ok (.getfield 158, 3) := by decide +kernel
theorem dX8_playerOf_87 : decode cX8_playerOf 87 = .ok (.iload_n 1, 1) := by decide +kernel
theorem dX8_playerOf_88 : decode cX8_playerOf 88 = .ok (.invokevirtual 68, 3) := by decide +kernel
theorem dX8_playerOf_91 : decode cX8_playerOf 91 = .ok (.ireturn, 1) := by decide +kernel
theorem dX8_playerOf_92 : decode cX8_playerOf 92 = .ok (.aload_n 3, 1) := by decide +kernel
theorem dX8_playerOf_93 : decode cX8_playerOf 93 = .ok (.iload_n 1, 1) := by decide +kernel
theorem dX8_playerOf_94 : decode cX8_playerOf 94 = .ok (.invokevirtual 161, 3) := by decide +kernel
theorem dX8_playerOf_97 : decode cX8_playerOf 97 = .ok (.ifCond .eq 14, 3) := by decide +kernel
theorem dX8_playerOf_100 : decode cX8_playerOf 100 = .ok (.aload_n 3, 1) := by decide +kernel
theorem dX8_playerOf_101 : decode cX8_playerOf 101 = .ok (.getfield 133, 3) := by decide +kernel
theorem dX8_playerOf_104 : decode cX8_playerOf 104 = .ok (.iload_n 1, 1) := by decide +kernel
theorem dX8_playerOf_105 : decode cX8_playerOf 105 = .ok (.invokevirtual 68, 3) := by decide +kernel
theorem dX8_playerOf_108 : decode cX8_playerOf 108 = .ok (.goto 5, 3) := by decide +kernel
theorem dX8_playerOf_111 : decode cX8_playerOf 111 = .ok (.bipush (-4), 2) := by decide +kernel
theorem dX8_playerOf_113 : decode cX8_playerOf 113 = .ok (.ireturn, 1) := by decide +kernel
theorem dX8_playerOf_114 : decode cX8_playerOf 114 = .ok (.aload_n 3, 1) := by decide +kernel
theorem dX8_playerOf_115 : decode cX8_playerOf 115 = .ok (.iload_n 1, 1) := by decide +kernel
theorem dX8_playerOf_116 : decode cX8_playerOf 116 = .ok (.invokevirtual 161, 3) := by decide +kernel
theorem dX8_playerOf_119 : decode cX8_playerOf 119 = .ok (.ifCond .eq 14, 3) := by decide +kernel
theorem dX8_playerOf_122 : decode cX8_playerOf 122 = .ok (.aload_n 3, 1) := by decide +kernel
theorem dX8_playerOf_123 : decode cX8_playerOf 123 = .ok (.getfield 136, 3) := by decide +kernel
theorem dX8_playerOf_126 : decode cX8_playerOf 126 = .ok (.iload_n 1, 1) := by decide +kernel
theorem dX8_playerOf_127 : decode cX8_playerOf 127 = .ok (.invokevirtual 68, 3) := by decide +kernel
theorem dX8_playerOf_130 : decode cX8_playerOf 130 = .ok (.goto 5, 3) := by decide +kernel
theorem dX8_playerOf_133 : decode cX8_playerOf 133 = .ok (.bipush (-4), 2) := by decide +kernel
theorem dX8_playerOf_135 : decode cX8_playerOf 135 = .ok (.ireturn, 1) := by decide +kernel
theorem dX8_playerOf_136 : decode cX8_playerOf 136 = .ok (.iconst (-1), 1) := by decide +kernel
theorem dX8_playerOf_137 : decode cX8_playerOf 137 = .ok (.ireturn, 1) := by decide +kernel
theorem dX8_open_0 : decode cX8_open 0 = .ok (.iload_n 1, 1) := by decide +kernel
theorem dX8_open_1 : decode cX8_open 1 = .ok (.ifCond .ge 5, 3) := by decide +kernel
theorem dX8_open_4 : decode cX8_open 4 = .ok (.iconst (-1), 1) := by decide +kernel
theorem dX8_open_5 : decode cX8_open 5 = .ok (.ireturn, 1) := by decide +kernel
theorem dX8_open_6 : decode cX8_open 6 = .ok (.aload_n 0, 1) := by decide +kernel
theorem dX8_open_7 : decode cX8_open 7 = .ok (.getfield 10, 3) := by decide +kernel
theorem dX8_open_10 : decode cX8_open 10 = .ok (.getfield 51, 3) := by decide +kernel
theorem dX8_open_13 : decode cX8_open 13 = .ok (.getfield 55, 3) := by decide +kernel
theorem dX8_open_16 : decode cX8_open 16 = .ok (.ifCond .ne 6, 3) := by decide +kernel
theorem dX8_open_19 : decode cX8_open 19 = .ok (.bipush (-2), 2) := by decide +kernel
theorem dX8_open_21 : decode cX8_open 21 = .ok (.ireturn, 1) := by decide +kernel
theorem dX8_open_22 : decode cX8_open 22 = .ok (.iload_n 1, 1) := by decide +kernel
theorem dX8_open_23 : decode cX8_open 23 = .ok (.aload_n 0, 1) := by decide +kernel
theorem dX8_open_24 : decode cX8_open 24 = .ok (.getfield 10, 3) := by decide +kernel
theorem dX8_open_27 : decode cX8_open 27 = .ok (.getfield 37, 3) := by decide +kernel
theorem dX8_open_30 : decode cX8_open 30 = .ok (.getfield 110, 3) := by decide +kernel
theorem dX8_open_33 : decode cX8_open 33 = .ok (.aload_n 0, 1) := by decide +kernel
theorem dX8_open_34 : decode cX8_open 34 = .ok (.getfield 10, 3) := by decide +kernel
theorem dX8_open_37 : decode cX8_open 37 = .ok (.getfield 51, 3) := by decide +kernel
theorem dX8_open_40 : decode cX8_open 40 = .ok (.getfield 113, 3) := by decide +kernel
theorem dX8_open_43 : decode cX8_open 43 = .ok (.invokevirtual 68, 3) := by decide +kernel
theorem dX8_open_46 : decode cX8_open 46 = .ok (.if_icmp .lt 6, 3) := by decide +kernel
theorem dX8_open_49 : decode cX8_open 49 = .ok (.bipush (-4), 2) := by decide +kernel
theorem dX8_open_51 : decode cX8_open 51 = .ok (.ireturn, 1) := by decide +kernel
theorem dX8_open_52 : decode cX8_open 52 = .ok (.aload_n 0, 1) := by decide +kernel
theorem dX8_open_53 : decode cX8_open 53 = .ok (.getfield 10, 3) := by decide +kernel
theorem dX8_open_56 : decode cX8_open 56 = .ok (.getfield 37, 3) := by decide +kernel
theorem dX8_open_59 : decode cX8_open 59 = .ok (.aload_n 0, 1) := by decide +kernel
theorem dX8_open_60 : decode cX8_open 60 = .ok (.getfield 10, 3) := by decide +kernel
theorem dX8_open_63 : decode cX8_open 63 = .ok (.getfield 51, 3) := by decide +kernel
theorem dX8_open_66 : decode cX8_open 66 = .ok (.getfield 113, 3) := by decide +kernel
theorem dX8_open_69 : decode cX8_open 69 = .ok (.iload_n 1, 1) := by decide +kernel
theorem dX8_open_70 : decode cX8_open 70 = .ok (.invokevirtual 164, 3) := by decide +kernel
theorem dX8_open_73 : decode cX8_open 73 = .ok (.istore_n 2, 1) := by decide +kernel
theorem dX8_open_74 : decode cX8_open 74 = .ok (.aload_n 0, 1) := by decide +kernel
theorem dX8_open_75 : decode cX8_open 75 = .ok (.getfield 10, 3) := by decide +kernel
theorem dX8_open_78 : decode cX8_open 78 = .ok (.getfield 51, 3) := by decide +kernel
theorem dX8_open_81 : decode cX8_open 81 = .ok (.getfield 167, 3) := by decide +kernel
theorem dX8_open_84 : decode cX8_open 84 = .ok (.iload_n 2, 1) := by decide +kernel
theorem dX8_open_85 : decode cX8_open 85 = .ok (.invokestatic 170, 3) := by decide +kernel
theorem dX8_open_88 : decode cX8_open 88 = .ok (.ifCond .eq 7, 3) := by decide +kernel
theorem dX8_open_91 : decode cX8_open 91 = .ok (.iload_n 2, 1) := by decide +kernel
theorem dX8_open_92 : decode cX8_open 92 = .ok (.goto 5, 3) := by decide +kernel
theorem dX8_open_95 : decode cX8_open 95 = .ok (.bipush 26, 2) := by decide +kernel
theorem dX8_open_97 : decode cX8_open 97 = .ok (.ireturn, 1) := by decide +kernel
theorem dX8_round_0 : decode cX8_round 0 = .ok (.iload_n 1, 1) := by decide +kernel
theorem dX8_round_1 : decode cX8_round 1 = .ok (.ifCond .lt 12, 3) := by decide +kernel
theorem dX8_round_4 : decode cX8_round 4 = .ok (.iload_n 2, 1) := by decide +kernel
theorem dX8_round_5 : decode cX8_round 5 = .ok (.iconst 0, 1) := by decide +kernel
theorem dX8_round_6 : decode cX8_round 6 = .ok (.iconst 3, 1) := by decide +kernel
theorem dX8_round_7 : decode cX8_round 7 = .ok (.invokestatic 47, 3) := by decide +kernel
theorem dX8_round_10 : decode cX8_round 10 = .ok (.ifCond .ne 5, 3) := by decide +kernel
theorem dX8_round_13 : decode cX8_round 13 = .ok (.iconst (-1), 1) := by decide +kernel
theorem dX8_round_14 : decode cX8_round 14 = .ok (.ireturn, 1) := by decide +kernel
theorem dX8_round_15 : decode cX8_round 15 = .ok (.iload_n 1, 1) := by decide +kernel
theorem dX8_round_16 : decode cX8_round 16 = .ok (.aload_n 0, 1) := by decide +kernel
theorem dX8_round_17 : decode cX8_round 17 = .ok (.getfield 10, 3) := by decide +kernel
theorem dX8_round_20 : decode cX8_round 20 = .ok (.getfield 174, 3) := by decide +kernel
theorem dX8_round_23 : decode cX8_round 23 = .ok (.getfield 178, 3) := by decide +kernel
theorem dX8_round_26 : decode cX8_round 26 = .ok (.if_icmp .lt 6, 3) := by decide +kernel
theorem dX8_round_29 : decode cX8_round 29 = .ok (.bipush (-4), 2) := by decide +kernel
theorem dX8_round_31 : decode cX8_round 31 = .ok (.ireturn, 1) := by decide +kernel
theorem dX8_round_32 : decode cX8_round 32 = .ok (.iload_n 2, 1) := by decide +kernel
theorem dX8_round_33 : decode cX8_round 33 = .ok (.tableswitch 72 0 2 #[27, 42, 57], 27) := by decide +kernel
theorem dX8_round_60 : decode cX8_round 60 = .ok (.aload_n 0, 1) := by decide +kernel
theorem dX8_round_61 : decode cX8_round 61 = .ok (.getfield 10, 3) := by decide +kernel
theorem dX8_round_64 : decode cX8_round 64 = .ok (.getfield 174, 3) := by decide +kernel
theorem dX8_round_67 : decode cX8_round 67 = .ok (.getfield 181, 3) := by decide +kernel
theorem dX8_round_70 : decode cX8_round 70 = .ok (.iload_n 1, 1) := by decide +kernel
theorem dX8_round_71 : decode cX8_round 71 = .ok (.invokevirtual 68, 3) := by decide +kernel
theorem dX8_round_74 : decode cX8_round 74 = .ok (.ireturn, 1) := by decide +kernel
theorem dX8_round_75 : decode cX8_round 75 = .ok (.aload_n 0, 1) := by decide +kernel
theorem dX8_round_76 : decode cX8_round 76 = .ok (.getfield 10, 3) := by decide +kernel
theorem dX8_round_79 : decode cX8_round 79 = .ok (.getfield 174, 3) := by decide +kernel
theorem dX8_round_82 : decode cX8_round 82 = .ok (.getfield 183, 3) := by decide +kernel
theorem dX8_round_85 : decode cX8_round 85 = .ok (.iload_n 1, 1) := by decide +kernel
theorem dX8_round_86 : decode cX8_round 86 = .ok (.invokevirtual 68, 3) := by decide +kernel
theorem dX8_round_89 : decode cX8_round 89 = .ok (.ireturn, 1) := by decide +kernel
theorem dX8_round_90 : decode cX8_round 90 = .ok (.aload_n 0, 1) := by decide +kernel
theorem dX8_round_91 : decode cX8_round 91 = .ok (.getfield 10, 3) := by decide +kernel
theorem dX8_round_94 : decode cX8_round 94 = .ok (.getfield 174, 3) := by decide +kernel
theorem dX8_round_97 : decode cX8_round 97 = .ok (.getfield 186, 3) := by decide +kernel
theorem dX8_round_100 : decode cX8_round 100 = .ok (.iload_n 1, 1) := by decide +kernel
theorem dX8_round_101 : decode cX8_round 101 = .ok (.invokevirtual 68, 3) := by decide +kernel
theorem dX8_round_104 : decode cX8_round 104 = .ok (.ireturn, 1) := by decide +kernel
theorem dX8_round_105 : decode cX8_round 105 = .ok (.aload_n 0, 1) := by decide +kernel
theorem dX8_round_106 : decode cX8_round 106 = .ok (.getfield 10, 3) := by decide +kernel
theorem dX8_round_109 : decode cX8_round 109 = .ok (.getfield 174, 3) := by decide +kernel
theorem dX8_round_112 : decode cX8_round 112 = .ok (.getfield 187, 3) := by decide +kernel
theorem dX8_round_115 : decode cX8_round 115 = .ok (.iload_n 1, 1) := by decide +kernel
theorem dX8_round_116 : decode cX8_round 116 = .ok (.invokevirtual 68, 3) := by decide +kernel
theorem dX8_round_119 : decode cX8_round 119 = .ok (.ireturn, 1) := by decide +kernel
theorem dX8_count_0 : decode cX8_count 0 = .ok (.iload_n 1, 1) := by decide +kernel
theorem dX8_count_1 : decode cX8_count 1 = .ok (.iconst 0, 1) := by decide +kernel
theorem dX8_count_2 : decode cX8_count 2 = .ok (.bipush 15, 2) := by decide +kernel
theorem dX8_count_4 : decode cX8_count 4 = .ok (.invokestatic 47, 3) := by decide +kernel
theorem dX8_count_7 : decode cX8_count 7 = .ok (.ifCond .ne 5, 3) := by decide +kernel
theorem dX8_count_10 : decode cX8_count 10 = .ok (.iconst (-1), 1) := by decide +kernel
theorem dX8_count_11 : decode cX8_count 11 = .ok (.ireturn, 1) := by decide +kernel
theorem dX8_count_12 : decode cX8_count 12 = .ok (.iload_n 1, 1) := by decide +kernel
theorem dX8_count_13 : decode cX8_count 13 = .ok (.iconst 3, 1) := by decide +kernel
theorem dX8_count_14 : decode cX8_count 14 = .ok (.bipush 7, 2) := by decide +kernel
theorem dX8_count_16 : decode cX8_count 16 = .ok (.invokestatic 47, 3) := by decide +kernel
theorem dX8_count_19 : decode cX8_count 19 = .ok (.ifCond .eq 27, 3) := by decide +kernel
theorem dX8_count_22 : decode cX8_count 22 = .ok (.aload_n 0, 1) := by decide +kernel
theorem dX8_count_23 : decode cX8_count 23 = .ok (.getfield 10, 3) := by decide +kernel
theorem dX8_count_26 : decode cX8_count 26 = .ok (.getfield 51, 3) := by decide +kernel
theorem dX8_count_29 : decode cX8_count 29 = .ok (.getfield 55, 3) := by decide +kernel
theorem dX8_count_32 : decode cX8_count 32 = .ok (.ifCond .eq 11, 3) := by decide +kernel
theorem dX8_count_35 : decode cX8_count 35 = .ok (.aload_n 0, 1) := by decide +kernel
theorem dX8_count_36 : decode cX8_count 36 = .ok (.iload_n 1, 1) := by decide +kernel
theorem dX8_count_37 : decode cX8_count 37 = .ok (.invokevirtual 190, 3) := by decide +kernel
theorem dX8_count_40 : decode cX8_count 40 = .ok (.goto 5, 3) := by decide +kernel
theorem dX8_count_43 : decode cX8_count 43 = .ok (.bipush (-4), 2) := by decide +kernel
theorem dX8_count_45 : decode cX8_count 45 = .ok (.ireturn, 1) := by decide +kernel
theorem dX8_count_46 : decode cX8_count 46 = .ok (.aload_n 0, 1) := by decide +kernel
theorem dX8_count_47 : decode cX8_count 47 = .ok (.iload_n 1, 1) := by decide +kernel
theorem dX8_count_48 : decode cX8_count 48 = .ok (.invokevirtual 193, 3) := by decide +kernel
theorem dX8_count_51 : decode cX8_count 51 = .ok (.ireturn, 1) := by decide +kernel
theorem dX8_fits_0 : decode cX8_fits 0 = .ok (.iload_n 1, 1) := by decide +kernel
theorem dX8_fits_1 : decode cX8_fits 1 = .ok (.iconst 0, 1) := by decide +kernel
theorem dX8_fits_2 : decode cX8_fits 2 = .ok (.iconst 4, 1) := by decide +kernel
theorem dX8_fits_3 : decode cX8_fits 3 = .ok (.invokestatic 47, 3) := by decide +kernel
theorem dX8_fits_6 : decode cX8_fits 6 = .ok (.ifCond .ne 5, 3) := by decide +kernel
theorem dX8_fits_9 : decode cX8_fits 9 = .ok (.iconst (-1), 1) := by decide +kernel
theorem dX8_fits_10 : decode cX8_fits 10 = .ok (.ireturn, 1) := by decide +kernel
theorem dX8_fits_11 : decode cX8_fits 11 = .ok (.aload_n 0, 1) := by decide +kernel
theorem dX8_fits_12 : decode cX8_fits 12 = .ok (.getfield 10, 3) := by decide +kernel
theorem dX8_fits_15 : decode cX8_fits 15 = .ok (.getfield 51, 3) := by decide +kernel
theorem dX8_fits_18 : decode cX8_fits 18 = .ok (.getfield 55, 3) := by decide +kernel
theorem dX8_fits_21 : decode cX8_fits 21 = .ok (.ifCond .ne 6, 3) := by decide +kernel
theorem dX8_fits_24 : decode cX8_fits 24 = .ok (.bipush (-2), 2) := by decide +kernel
theorem dX8_fits_26 : decode cX8_fits 26 = .ok (.ireturn, 1) := by decide +kernel
theorem dX8_fits_27 : decode cX8_fits 27 = .ok (.aload_n 0, 1) := by decide +kernel
theorem dX8_fits_28 : decode cX8_fits 28 = .ok (.getfield 10, 3) := by decide +kernel
theorem dX8_fits_31 : decode cX8_fits 31 = .ok (.invokevirtual 196, 3) := by decide +kernel
theorem dX8_fits_34 : decode cX8_fits 34 = .ok (.istore_n 2, 1) := by decide +kernel
theorem dX8_fits_35 : decode cX8_fits 35 = .ok (.iload_n 1, 1) := by decide +kernel
theorem dX8_fits_36 : decode cX8_fits 36 = .ok (.tableswitch 60 0 3 #[32, 34, 39, 51], 32) := by decide +kernel
theorem dX8_fits_68 : decode cX8_fits 68 = .ok (.iload_n 2, 1) := by decide +kernel
theorem dX8_fits_69 : decode cX8_fits 69 = .ok (.ireturn, 1) := by decide +kernel
theorem dX8_fits_70 : decode cX8_fits 70 = .ok (.iload_n 2, 1) := by decide +kernel
theorem dX8_fits_71 : decode cX8_fits 71 = .ok (.invokestatic 200, 3) := by decide +kernel
theorem dX8_fits_74 : decode cX8_fits 74 = .ok (.ireturn, 1) := by decide +kernel
theorem dX8_fits_75 : decode cX8_fits 75 = .ok (.aload_n 0, 1) := by decide +kernel
theorem dX8_fits_76 : decode cX8_fits 76 = .ok (.getfield 10, 3) := by decide +kernel
theorem dX8_fits_79 : decode cX8_fits 79 = .ok (.getfield 37, 3) := by decide +kernel
theorem dX8_fits_82 : decode cX8_fits 82 = .ok (.iload_n 2, 1) := by decide +kernel
theorem dX8_fits_83 : decode cX8_fits 83 = .ok (.invokevirtual 205, 3) := by decide +kernel
theorem dX8_fits_86 : decode cX8_fits 86 = .ok (.ireturn, 1) := by decide +kernel
theorem dX8_fits_87 : decode cX8_fits 87 = .ok (.aload_n 0, 1) := by decide +kernel
theorem dX8_fits_88 : decode cX8_fits 88 = .ok (.getfield 10, 3) := by decide +kernel
theorem dX8_fits_91 : decode cX8_fits 91 = .ok (.iload_n 2, 1) := by decide +kernel
theorem dX8_fits_92 : decode cX8_fits 92 = .ok (.invokevirtual 208, 3) := by decide +kernel
theorem dX8_fits_95 : decode cX8_fits 95 = .ok (.ireturn, 1) := by decide +kernel
theorem dX8_fits_96 : decode cX8_fits 96 = .ok (.aload_n 0, 1) := by decide +kernel
theorem dX8_fits_97 : decode cX8_fits 97 = .ok (.getfield 10, 3) := by decide +kernel
theorem dX8_fits_100 : decode cX8_fits 100 = .ok (.getfield 37, 3) := by decide +kernel
theorem dX8_fits_103 : decode cX8_fits 103 = .ok (.iload_n 2, 1) := by decide +kernel
theorem dX8_fits_104 : decode cX8_fits 104 = .ok (.aload_n 0, 1) := by decide +kernel
theorem dX8_fits_105 : decode cX8_fits 105 = .ok (.getfield 10, 3) := by decide +kernel
theorem dX8_fits_108 : decode cX8_fits 108 = .ok (.iload_n 2, 1) := by decide +kernel
theorem dX8_fits_109 : decode cX8_fits 109 = .ok (.invokevirtual 208, 3) := by decide +kernel
theorem dX8_fits_112 : decode cX8_fits 112 = .ok (.invokevirtual 211, 3) := by decide +kernel
theorem dX8_fits_115 : decode cX8_fits 115 = .ok (.ireturn, 1) := by decide +kernel
theorem dX8_letterOf_0 : decode cX8_letterOf 0 = .ok (.iload_n 1, 1) := by decide +kernel
theorem dX8_letterOf_1 : decode cX8_letterOf 1 = .ok (.invokestatic 116, 3) := by decide +kernel
theorem dX8_letterOf_4 : decode cX8_letterOf 4 = .ok (.ifCond .eq 12, 3) := by decide +kernel
theorem dX8_letterOf_7 : decode cX8_letterOf 7 = .ok (.iload_n 2, 1) := by decide +kernel
theorem dX8_letterOf_8 : decode cX8_letterOf 8 = .ok (.iconst 0, 1) := by decide +kernel
theorem dX8_letterOf_9 : decode cX8_letterOf 9 = .ok (.iconst 2, 1) := by decide +kernel
theorem dX8_letterOf_10 : decode cX8_letterOf 10 = .ok (.invokestatic 47, 3) := by decide +kernel
theorem dX8_letterOf_13 : decode cX8_letterOf 13 = .ok (.ifCond .ne 5, 3) := by decide +kernel
theorem dX8_letterOf_16 : decode cX8_letterOf 16 = .ok (.iconst (-1), 1) := by decide +kernel
theorem dX8_letterOf_17 : decode cX8_letterOf 17 = .ok (.ireturn, 1) := by decide +kernel
theorem dX8_letterOf_18 : decode cX8_letterOf 18 = .ok (.aload_n 0, 1) := by decide +kernel
theorem dX8_letterOf_19 : decode cX8_letterOf 19 = .ok (.getfield 10, 3) := by decide +kernel
theorem dX8_letterOf_22 : decode cX8_letterOf 22 = .ok (.getfield 51, 3) := by decide +kernel
theorem dX8_letterOf_25 : decode cX8_letterOf 25 = .ok (.iload_n 1, 1) := by decide +kernel
theorem dX8_letterOf_26 : decode cX8_letterOf 26 = .ok (.invokevirtual 119, 3) := by decide +kernel
theorem dX8_letterOf_29 : decode cX8_letterOf 29 = .ok (.ifCond .ne 6, 3) := by decide +kernel
theorem dX8_letterOf_32 : decode cX8_letterOf 32 = .ok (.bipush (-2), 2) := by decide +kernel
theorem dX8_letterOf_34 : decode cX8_letterOf 34 = .ok (.ireturn, 1) := by decide +kernel
theorem dX8_letterOf_35 : decode cX8_letterOf 35 = .ok (.aload_n 0, 1) := by decide +kernel
theorem dX8_letterOf_36 : decode cX8_letterOf 36 = .ok (.getfield 10, 3) := by decide +kernel
theorem dX8_letterOf_39 : decode cX8_letterOf 39 = .ok (.invokevirtual 196, 3) := by decide +kernel
theorem dX8_letterOf_42 : decode cX8_letterOf 42 = .ok (.istore_n 3, 1) := by decide +kernel
theorem dX8_letterOf_43 : decode cX8_letterOf 43 = .ok (.iload_n 2, 1) := by decide +kernel
theorem dX8_letterOf_44 : decode cX8_letterOf 44 = .ok (.lookupswitch 71 #[(0, 28), (1, 41)], 28) := by decide +kernel
theorem dX8_letterOf_72 : decode cX8_letterOf 72 = .ok (.aload_n 0, 1) := by decide +kernel
theorem dX8_letterOf_73 : decode cX8_letterOf 73 = .ok (.getfield 10, 3) := by decide +kernel
theorem dX8_letterOf_76 : decode cX8_letterOf 76 = .ok (.getfield 37, 3) := by decide +kernel
theorem dX8_letterOf_79 : decode cX8_letterOf 79 = .ok (.iload_n 3, 1) := by decide +kernel
theorem dX8_letterOf_80 : decode cX8_letterOf 80 = .ok (.iload_n 1, 1) := by decide +kernel
theorem dX8_letterOf_81 : decode cX8_letterOf 81 = .ok (.invokevirtual 211, 3) := by decide +kernel
theorem dX8_letterOf_84 : decode cX8_letterOf 84 = .ok (.ireturn, 1) := by decide +kernel
theorem dX8_letterOf_85 : decode cX8_letterOf 85 = .ok (.aload_n 0, 1) := by decide +kernel
theorem dX8_letterOf_86 : decode cX8_letterOf 86 = .ok (.getfield 10, 3) := by decide +kernel
theorem dX8_letterOf_89 : decode cX8_letterOf 89 = .ok (.getfield 37, 3) := by decide +kernel
theorem dX8_letterOf_92 : decode cX8_letterOf 92 = .ok (.iload_n 3, 1) := by decide +kernel
theorem dX8_letterOf_93 : decode cX8_letterOf 93 = .ok (.iload_n 1, 1) := by decide +kernel
theorem dX8_letterOf_94 : decode cX8_letterOf 94 = .ok (.invokevirtual 211, 3) := by decide +kernel
theorem dX8_letterOf_97 : decode cX8_letterOf 97 = .ok (.aload_n 0, 1) := by decide +kernel
theorem dX8_letterOf_98 : decode cX8_letterOf 98 = .ok (.getfield 10, 3) := by decide +kernel
theorem dX8_letterOf_101 : decode cX8_letterOf 101 = .ok (.getfield 37, 3) := by decide +kernel
theorem dX8_letterOf_104 : decode cX8_letterOf 104 = .ok (.iload_n 3, 1) := by decide +kernel
theorem dX8_letterOf_105 : decode cX8_letterOf 105 = .ok (.invokevirtual 205, 3) := by decide +kernel
theorem dX8_letterOf_108 : decode cX8_letterOf 108 = .ok (.invokestatic 214, 3) := by decide +kernel
theorem dX8_letterOf_111 : decode cX8_letterOf 111 = .ok (.invokestatic 218, 3) := by decide +kernel
theorem dX8_letterOf_114 : decode cX8_letterOf 114 = .ok (.ireturn, 1) := by decide +kernel
theorem dX8_letterOf_115 : decode cX8_letterOf 115 = .ok (.aload_n 0, 1) := by decide +kernel
theorem dX8_letterOf_116 : decode cX8_letterOf 116 = .ok (.getfield 10, 3) := by decide +kernel
theorem dX8_letterOf_119 : decode cX8_letterOf 119 = .ok (.getfield 37, 3) := by decide +kernel
theorem dX8_letterOf_122 : decode cX8_letterOf 122 = .ok (.iload_n 3, 1) := by decide +kernel
theorem dX8_letterOf_123 : decode cX8_letterOf 123 = .ok (.iload_n 1, 1) := by decide +kernel
theorem dX8_letterOf_124 : decode cX8_letterOf 124 = .ok (.invokevirtual 222, 3) := by decide +kernel
theorem dX8_letterOf_127 : decode cX8_letterOf 127 = .ok (.ireturn, 1) := by decide +kernel
theorem dX8_sharpest_0 : decode cX8_sharpest 0 = .ok (.aload_n 0, 1) := by decide +kernel
theorem dX8_sharpest_1 : decode cX8_sharpest 1 = .ok (.getfield 10, 3) := by decide +kernel
theorem dX8_sharpest_4 : decode cX8_sharpest 4 = .ok (.getfield 51, 3) := by decide +kernel
theorem dX8_sharpest_7 : decode cX8_sharpest 7 = .ok (.getfield 55, 3) := by decide +kernel
theorem dX8_sharpest_10 : decode cX8_sharpest 10 = .ok (.ifCond .eq 20, 3) := by decide +kernel
theorem dX8_sharpest_13 : decode cX8_sharpest 13 = .ok (.aload_n 0, 1) := by decide +kernel
theorem dX8_sharpest_14 : decode cX8_sharpest 14 = .ok (.getfield 10, 3) := by decide +kernel
theorem dX8_sharpest_17 : decode cX8_sharpest 17 = .ok (.aload_n 0, 1) := by decide +kernel
theorem dX8_sharpest_18 : decode cX8_sharpest 18 = .ok (.getfield 10, 3) := by decide +kernel
theorem dX8_sharpest_21 : decode cX8_sharpest 21 = .ok (.invokevirtual 196, 3) := by decide +kernel
theorem dX8_sharpest_24 : decode cX8_sharpest 24 = .ok (.invokevirtual 225, 3) := by decide +kernel
theorem dX8_sharpest_27 : decode cX8_sharpest 27 = .ok (.goto 5, 3) := by decide +kernel
theorem dX8_sharpest_30 : decode cX8_sharpest 30 = .ok (.bipush (-2), 2) := by decide +kernel
theorem dX8_sharpest_32 : decode cX8_sharpest 32 = .ok (.ireturn, 1) := by decide +kernel
theorem dX8_next_0 : decode cX8_next 0 = .ok (.aload_n 0, 1) := by decide +kernel
theorem dX8_next_1 : decode cX8_next 1 = .ok (.getfield 10, 3) := by decide +kernel
theorem dX8_next_4 : decode cX8_next 4 = .ok (.getfield 51, 3) := by decide +kernel
theorem dX8_next_7 : decode cX8_next 7 = .ok (.getfield 55, 3) := by decide +kernel
theorem dX8_next_10 : decode cX8_next 10 = .ok (.ifCond .ne 16, 3) := by decide +kernel
theorem dX8_next_13 : decode cX8_next 13 = .ok (.aload_n 0, 1) := by decide +kernel
theorem dX8_next_14 : decode cX8_next 14 = .ok (.getfield 10, 3) := by decide +kernel
theorem dX8_next_17 : decode cX8_next 17 = .ok (.getfield 37, 3) := by decide +kernel
theorem dX8_next_20 : decode cX8_next 20 = .ok (.getfield 228, 3) := by decide +kernel
theorem dX8_next_23 : decode cX8_next 23 = .ok (.ifCond .ne 6, 3) := by decide +kernel
theorem dX8_next_26 : decode cX8_next 26 = .ok (.bipush (-2), 2) := by decide +kernel
theorem dX8_next_28 : decode cX8_next 28 = .ok (.ireturn, 1) := by decide +kernel
theorem dX8_next_29 : decode cX8_next 29 = .ok (.aload_n 0, 1) := by decide +kernel
theorem dX8_next_30 : decode cX8_next 30 = .ok (.getfield 10, 3) := by decide +kernel
theorem dX8_next_33 : decode cX8_next 33 = .ok (.getfield 37, 3) := by decide +kernel
theorem dX8_next_36 : decode cX8_next 36 = .ok (.aload_n 0, 1) := by decide +kernel
theorem dX8_next_37 : decode cX8_next 37 = .ok (.getfield 10, 3) := by decide +kernel
theorem dX8_next_40 : decode cX8_next 40 = .ok (.getfield 100, 3) := by decide +kernel
theorem dX8_next_43 : decode cX8_next 43 = .ok (.invokestatic 229, 3) := by decide +kernel
theorem dX8_next_46 : decode cX8_next 46 = .ok (.invokevirtual 232, 3) := by decide +kernel
theorem dX8_next_49 : decode cX8_next 49 = .ok (.ireturn, 1) := by decide +kernel
theorem dX8_keep_0 : decode cX8_keep 0 = .ok (.aload_n 0, 1) := by decide +kernel
theorem dX8_keep_1 : decode cX8_keep 1 = .ok (.getfield 16, 3) := by decide +kernel
theorem dX8_keep_4 : decode cX8_keep 4 = .ok (.aload_n 0, 1) := by decide +kernel
theorem dX8_keep_5 : decode cX8_keep 5 = .ok (.getfield 10, 3) := by decide +kernel
theorem dX8_keep_8 : decode cX8_keep 8 = .ok (.invokevirtual 235, 3) := by decide +kernel
theorem dX8_keep_11 : decode cX8_keep 11 = .ok (.aload_n 0, 1) := by decide +kernel
theorem dX8_keep_12 : decode cX8_keep 12 = .ok (.iconst 1, 1) := by decide +kernel
theorem dX8_keep_13 : decode cX8_keep 13 = .ok (.putfield 33, 3) := by decide +kernel
theorem dX8_keep_16 : decode cX8_keep 16 = .ok (.aload_n 0, 1) := by decide +kernel
theorem dX8_keep_17 : decode cX8_keep 17 = .ok (.getfield 10, 3) := by decide +kernel
theorem dX8_keep_20 : decode cX8_keep 20 = .ok (.getfield 78, 3) := by decide +kernel
theorem dX8_keep_23 : decode cX8_keep 23 = .ok (.getfield 82, 3) := by decide +kernel
theorem dX8_keep_26 : decode cX8_keep 26 = .ok (.ireturn, 1) := by decide +kernel
theorem dX8_restore_0 : decode cX8_restore 0 = .ok (.aload_n 0, 1) := by decide +kernel
theorem dX8_restore_1 : decode cX8_restore 1 = .ok (.getfield 33, 3) := by decide +kernel
theorem dX8_restore_4 : decode cX8_restore 4 = .ok (.ifCond .ne 6, 3) := by decide +kernel
theorem dX8_restore_7 : decode cX8_restore 7 = .ok (.bipush (-2), 2) := by decide +kernel
theorem dX8_restore_9 : decode cX8_restore 9 = .ok (.ireturn, 1) := by decide +kernel
theorem dX8_restore_10 : decode cX8_restore 10 = .ok (.aload_n 0, 1) := by decide +kernel
theorem dX8_restore_11 : decode cX8_restore 11 = .ok (.getfield 22, 3) := by decide +kernel
theorem dX8_restore_14 : decode cX8_restore 14 = .ok (.aload_n 0, 1) := by decide +kernel
theorem dX8_restore_15 : decode cX8_restore 15 = .ok (.getfield 10, 3) := by decide +kernel
theorem dX8_restore_18 : decode cX8_restore 18 = .ok (.invokevirtual 60, 3) := by decide +kernel
theorem dX8_restore_21 : decode cX8_restore 21 = .ok (.aload_n 0, 1) := by decide +kernel
theorem dX8_restore_22 : decode cX8_restore 22 = .ok (.getfield 10, 3) := by decide +kernel
theorem dX8_restore_25 : decode cX8_restore 25 = .ok (.aload_n 0, 1) := by decide +kernel
theorem dX8_restore_26 : decode cX8_restore 26 = .ok (.getfield 16, 3) := by decide +kernel
theorem dX8_restore_29 : decode cX8_restore 29 = .ok (.invokevirtual 235, 3) := by decide +kernel
theorem dX8_restore_32 : decode cX8_restore 32 = .ok (.aload_n 0, 1) := by decide +kernel
theorem dX8_restore_33 : decode cX8_restore 33 = .ok (.getfield 10, 3) := by decide +kernel
theorem dX8_restore_36 : decode cX8_restore 36 = .ok (.getfield 78, 3) := by decide +kernel
theorem dX8_restore_39 : decode cX8_restore 39 = .ok (.getfield 82, 3) := by decide +kernel
theorem dX8_restore_42 : decode cX8_restore 42 = .ok (.ireturn, 1) := by decide +kernel
theorem dX8_undo_0 : decode cX8_undo 0 = .ok (.aload_n 0, 1) := by decide +kernel
theorem dX8_undo_1 : decode cX8_undo 1 = .ok (.getfield 22, 3) := by decide +kernel
theorem dX8_undo_4 : decode cX8_undo 4 = .ok (.getfield 238, 3) := by decide +kernel
theorem dX8_undo_7 : decode cX8_undo 7 = .ok (.ifCond .ne 6, 3) := by decide +kernel
theorem dX8_undo_10 : decode cX8_undo 10 = .ok (.bipush (-2), 2) := by decide +kernel
theorem dX8_undo_12 : decode cX8_undo 12 = .ok (.ireturn, 1) := by decide +kernel
theorem dX8_undo_13 : decode cX8_undo 13 = .ok (.aload_n 0, 1) := by decide +kernel
theorem dX8_undo_14 : decode cX8_undo 14 = .ok (.getfield 22, 3) := by decide +kernel
theorem dX8_undo_17 : decode cX8_undo 17 = .ok (.aload_n 0, 1) := by decide +kernel
theorem dX8_undo_18 : decode cX8_undo 18 = .ok (.getfield 10, 3) := by decide +kernel
theorem dX8_undo_21 : decode cX8_undo 21 = .ok (.invokevirtual 239, 3) := by decide +kernel
theorem dX8_undo_24 : decode cX8_undo 24 = .ok (.aload_n 0, 1) := by decide +kernel
theorem dX8_undo_25 : decode cX8_undo 25 = .ok (.getfield 22, 3) := by decide +kernel
theorem dX8_undo_28 : decode cX8_undo 28 = .ok (.getfield 238, 3) := by decide +kernel
theorem dX8_undo_31 : decode cX8_undo 31 = .ok (.ireturn, 1) := by decide +kernel
theorem dX8_type_0 : decode cX8_type 0 = .ok (.iload_n 1, 1) := by decide +kernel
theorem dX8_type_1 : decode cX8_type 1 = .ok (.bipush 32, 2) := by decide +kernel
theorem dX8_type_3 : decode cX8_type 3 = .ok (.bipush 126, 2) := by decide +kernel
theorem dX8_type_5 : decode cX8_type 5 = .ok (.invokestatic 47, 3) := by decide +kernel
theorem dX8_type_8 : decode cX8_type 8 = .ok (.ifCond .ne 5, 3) := by decide +kernel
theorem dX8_type_11 : decode cX8_type 11 = .ok (.iconst (-1), 1) := by decide +kernel
theorem dX8_type_12 : decode cX8_type 12 = .ok (.ireturn, 1) := by decide +kernel
theorem dX8_type_13 : decode cX8_type 13 = .ok (.aload_n 0, 1) := by decide +kernel
theorem dX8_type_14 : decode cX8_type 14 = .ok (.getfield 29, 3) := by decide +kernel
theorem dX8_type_17 : decode cX8_type 17 = .ok (.getfield 242, 3) := by decide +kernel
theorem dX8_type_20 : decode cX8_type 20 = .ok (.bipush 120, 2) := by decide +kernel
theorem dX8_type_22 : decode cX8_type 22 = .ok (.if_icmp .lt 6, 3) := by decide +kernel
theorem dX8_type_25 : decode cX8_type 25 = .ok (.bipush (-3), 2) := by decide +kernel
theorem dX8_type_27 : decode cX8_type 27 = .ok (.ireturn, 1) := by decide +kernel
theorem dX8_type_28 : decode cX8_type 28 = .ok (.aload_n 0, 1) := by decide +kernel
theorem dX8_type_29 : decode cX8_type 29 = .ok (.getfield 29, 3) := by decide +kernel
theorem dX8_type_32 : decode cX8_type 32 = .ok (.iload_n 1, 1) := by decide +kernel
theorem dX8_type_33 : decode cX8_type 33 = .ok (.invokevirtual 244, 3) := by decide +kernel
theorem dX8_type_36 : decode cX8_type 36 = .ok (.aload_n 0, 1) := by decide +kernel
theorem dX8_type_37 : decode cX8_type 37 = .ok (.getfield 29, 3) := by decide +kernel
theorem dX8_type_40 : decode cX8_type 40 = .ok (.getfield 242, 3) := by decide +kernel
theorem dX8_type_43 : decode cX8_type 43 = .ok (.ireturn, 1) := by decide +kernel
theorem dX8_clearText_0 : decode cX8_clearText 0 = .ok (.aload_n 0, 1) := by decide +kernel
theorem dX8_clearText_1 : decode cX8_clearText 1 = .ok (.getfield 29, 3) := by decide +kernel
theorem dX8_clearText_4 : decode cX8_clearText 4 = .ok (.getfield 242, 3) := by decide +kernel
theorem dX8_clearText_7 : decode cX8_clearText 7 = .ok (.istore_n 1, 1) := by decide +kernel
theorem dX8_clearText_8 : decode cX8_clearText 8 = .ok (.aload_n 0, 1) := by decide +kernel
theorem dX8_clearText_9 : decode cX8_clearText 9 = .ok (.getfield 29, 3) := by decide +kernel
theorem dX8_clearText_12 : decode cX8_clearText 12 = .ok (.iconst 0, 1) := by decide +kernel
theorem dX8_clearText_13 : decode cX8_clearText 13 = .ok (.putfield 242, 3) := by decide +kernel
theorem dX8_clearText_16 : decode cX8_clearText 16 = .ok (.iload_n 1, 1) := by decide +kernel
theorem dX8_clearText_17 : decode cX8_clearText 17 = .ok (.ireturn, 1) := by decide +kernel
theorem dX8_fault_0 : decode cX8_fault 0 = .ok (.iload_n 1, 1) := by decide +kernel
theorem dX8_fault_1 : decode cX8_fault 1 = .ok (.iconst 0, 1) := by decide +kernel
theorem dX8_fault_2 : decode cX8_fault 2 = .ok (.iconst 1, 1) := by decide +kernel
theorem dX8_fault_3 : decode cX8_fault 3 = .ok (.invokestatic 47, 3) := by decide +kernel
theorem dX8_fault_6 : decode cX8_fault 6 = .ok (.ifCond .ne 5, 3) := by decide +kernel
theorem dX8_fault_9 : decode cX8_fault 9 = .ok (.iconst (-1), 1) := by decide +kernel
theorem dX8_fault_10 : decode cX8_fault 10 = .ok (.ireturn, 1) := by decide +kernel
theorem dX8_fault_11 : decode cX8_fault 11 = .ok (.aload_n 0, 1) := by decide +kernel
theorem dX8_fault_12 : decode cX8_fault 12 = .ok (.getfield 29, 3) := by decide +kernel
theorem dX8_fault_15 : decode cX8_fault 15 = .ok (.invokevirtual 247, 3) := by decide +kernel
theorem dX8_fault_18 : decode cX8_fault 18 = .ok (.aload_n 0, 1) := by decide +kernel
theorem dX8_fault_19 : decode cX8_fault 19 = .ok (.getfield 29, 3) := by decide +kernel
theorem dX8_fault_22 : decode cX8_fault 22 = .ok (.invokevirtual 250, 3) := by decide +kernel
theorem dX8_fault_25 : decode cX8_fault 25 = .ok (.ifCond .ne 6, 3) := by decide +kernel
theorem dX8_fault_28 : decode cX8_fault 28 = .ok (.bipush (-4), 2) := by decide +kernel
theorem dX8_fault_30 : decode cX8_fault 30 = .ok (.ireturn, 1) := by decide +kernel
theorem dX8_fault_31 : decode cX8_fault 31 = .ok (.iload_n 1, 1) := by decide +kernel
theorem dX8_fault_32 : decode cX8_fault 32 = .ok (.ifCond .ne 13, 3) := by decide +kernel
theorem dX8_fault_35 : decode cX8_fault 35 = .ok (.aload_n 0, 1) := by decide +kernel
theorem dX8_fault_36 : decode cX8_fault 36 = .ok (.getfield 29, 3) := by decide +kernel
theorem dX8_fault_39 : decode cX8_fault 39 = .ok (.getfield 254, 3) := by decide +kernel
theorem dX8_fault_42 : decode cX8_fault 42 = .ok (.goto 10, 3) := by decide +kernel
theorem dX8_fault_45 : decode cX8_fault 45 = .ok (.aload_n 0, 1) := by decide +kernel
theorem dX8_fault_46 : decode cX8_fault 46 = .ok (.getfield 29, 3) := by decide +kernel
theorem dX8_fault_49 : decode cX8_fault 49 = .ok (.getfield 257, 3) := by decide +kernel
theorem dX8_fault_52 : decode cX8_fault 52 = .ok (.ireturn, 1) := by decide +kernel
theorem dX8_read_0 : decode cX8_read 0 = .ok (.aload_n 0, 1) := by decide +kernel
theorem dX8_read_1 : decode cX8_read 1 = .ok (.getfield 10, 3) := by decide +kernel
theorem dX8_read_4 : decode cX8_read 4 = .ok (.getfield 51, 3) := by decide +kernel
theorem dX8_read_7 : decode cX8_read 7 = .ok (.getfield 55, 3) := by decide +kernel
theorem dX8_read_10 : decode cX8_read 10 = .ok (.ifCond .eq 6, 3) := by decide +kernel
theorem dX8_read_13 : decode cX8_read 13 = .ok (.bipush (-2), 2) := by decide +kernel
theorem dX8_read_15 : decode cX8_read 15 = .ok (.ireturn, 1) := by decide +kernel
theorem dX8_read_16 : decode cX8_read 16 = .ok (.aload_n 0, 1) := by decide +kernel
theorem dX8_read_17 : decode cX8_read 17 = .ok (.getfield 29, 3) := by decide +kernel
theorem dX8_read_20 : decode cX8_read 20 = .ok (.invokevirtual 247, 3) := by decide +kernel
theorem dX8_read_23 : decode cX8_read 23 = .ok (.aload_n 0, 1) := by decide +kernel
theorem dX8_read_24 : decode cX8_read 24 = .ok (.getfield 29, 3) := by decide +kernel
theorem dX8_read_27 : decode cX8_read 27 = .ok (.invokevirtual 250, 3) := by decide +kernel
theorem dX8_read_30 : decode cX8_read 30 = .ok (.ifCond .eq 6, 3) := by decide +kernel
theorem dX8_read_33 : decode cX8_read 33 = .ok (.bipush (-2), 2) := by decide +kernel
theorem dX8_read_35 : decode cX8_read 35 = .ok (.ireturn, 1) := by decide +kernel
theorem dX8_read_36 : decode cX8_read 36 = .ok (.aload_n 0, 1) := by decide +kernel
theorem dX8_read_37 : decode cX8_read 37 = .ok (.getfield 22, 3) := by decide +kernel
theorem dX8_read_40 : decode cX8_read 40 = .ok (.aload_n 0, 1) := by decide +kernel
theorem dX8_read_41 : decode cX8_read 41 = .ok (.getfield 10, 3) := by decide +kernel
theorem dX8_read_44 : decode cX8_read 44 = .ok (.invokevirtual 60, 3) := by decide +kernel
theorem dX8_read_47 : decode cX8_read 47 = .ok (.aload_n 0, 1) := by decide +kernel
theorem dX8_read_48 : decode cX8_read 48 = .ok (.getfield 10, 3) := by decide +kernel
theorem dX8_read_51 : decode cX8_read 51 = .ok (.getfield 37, 3) := by decide +kernel
theorem dX8_read_54 : decode cX8_read 54 = .ok (.aload_n 0, 1) := by decide +kernel
theorem dX8_read_55 : decode cX8_read 55 = .ok (.getfield 29, 3) := by decide +kernel
theorem dX8_read_58 : decode cX8_read 58 = .ok (.getfield 260, 3) := by decide +kernel
theorem dX8_read_61 : decode cX8_read 61 = .ok (.invokevirtual 263, 3) := by decide +kernel
theorem dX8_read_64 : decode cX8_read 64 = .ok (.aload_n 0, 1) := by decide +kernel
theorem dX8_read_65 : decode cX8_read 65 = .ok (.getfield 10, 3) := by decide +kernel
theorem dX8_read_68 : decode cX8_read 68 = .ok (.getfield 37, 3) := by decide +kernel
theorem dX8_read_71 : decode cX8_read 71 = .ok (.getfield 228, 3) := by decide +kernel
theorem dX8_read_74 : decode cX8_read 74 = .ok (.ireturn, 1) := by decide +kernel
theorem dX8_fitOf_0 : decode cX8_fitOf 0 = .ok (.aload_n 0, 1) := by decide +kernel
theorem dX8_fitOf_1 : decode cX8_fitOf 1 = .ok (.getfield 10, 3) := by decide +kernel
theorem dX8_fitOf_4 : decode cX8_fitOf 4 = .ok (.getfield 51, 3) := by decide +kernel
theorem dX8_fitOf_7 : decode cX8_fitOf 7 = .ok (.getfield 55, 3) := by decide +kernel
theorem dX8_fitOf_10 : decode cX8_fitOf 10 = .ok (.ifCond .ne 6, 3) := by decide +kernel
theorem dX8_fitOf_13 : decode cX8_fitOf 13 = .ok (.bipush (-4), 2) := by decide +kernel
theorem dX8_fitOf_15 : decode cX8_fitOf 15 = .ok (.ireturn, 1) := by decide +kernel
theorem dX8_fitOf_16 : decode cX8_fitOf 16 = .ok (.aload_n 0, 1) := by decide +kernel
theorem dX8_fitOf_17 : decode cX8_fitOf 17 = .ok (.getfield 10, 3) := by decide +kernel
theorem dX8_fitOf_20 : decode cX8_fitOf 20 = .ok (.invokevirtual 196, 3) := by decide +kernel
theorem dX8_fitOf_23 : decode cX8_fitOf 23 = .ok (.iload_n 1, 1) := by decide +kernel
theorem dX8_fitOf_24 : decode cX8_fitOf 24 = .ok (.invokestatic 170, 3) := by decide +kernel
theorem dX8_fitOf_27 : decode cX8_fitOf 27 = .ok (.ifCond .eq 7, 3) := by decide +kernel
theorem dX8_fitOf_30 : decode cX8_fitOf 30 = .ok (.iconst 1, 1) := by decide +kernel
theorem dX8_fitOf_31 : decode cX8_fitOf 31 = .ok (.goto 4, 3) := by decide +kernel
theorem dX8_fitOf_34 : decode cX8_fitOf 34 = .ok (.iconst 0, 1) := by decide +kernel
theorem dX8_fitOf_35 : decode cX8_fitOf 35 = .ok (.ireturn, 1) := by decide +kernel
theorem dX8_letterAtCode_0 : decode cX8_letterAtCode 0 = .ok (.iload_n 2, 1) := by decide +kernel
theorem dX8_letterAtCode_1 : decode cX8_letterAtCode 1 = .ok (.bipush 10, 2) := by decide +kernel
theorem dX8_letterAtCode_3 : decode cX8_letterAtCode 3 = .ok (.bipush 10, 2) := by decide +kernel
theorem dX8_letterAtCode_5 : decode cX8_letterAtCode 5 = .ok (.aload_n 0, 1) := by decide +kernel
theorem dX8_letterAtCode_6 : decode cX8_letterAtCode 6 = .ok (.getfield 10, 3) := by decide +kernel
theorem dX8_letterAtCode_9 : decode cX8_letterAtCode 9 = .ok (.getfield 37, 3) := by decide +kernel
theorem dX8_letterAtCode_12 : decode cX8_letterAtCode 12 = .ok (.getfield 110, 3) := by decide +kernel
theorem dX8_letterAtCode_15 : decode cX8_letterAtCode 15 = .ok (.iload_n 1, 1) := by decide +kernel
theorem dX8_letterAtCode_16 : decode cX8_letterAtCode 16 = .ok (.invokevirtual 68, 3) := by decide +kernel
theorem dX8_letterAtCode_19 : decode cX8_letterAtCode 19 = .ok (.iadd, 1) := by decide +kernel
theorem dX8_letterAtCode_20 : decode cX8_letterAtCode 20 = .ok (.iconst 1, 1) := by decide +kernel
theorem dX8_letterAtCode_21 : decode cX8_letterAtCode 21 = .ok (.isub, 1) := by decide +kernel
theorem dX8_letterAtCode_22 : decode cX8_letterAtCode 22 = .ok (.invokestatic 47, 3) := by decide +kernel
theorem dX8_letterAtCode_25 : decode cX8_letterAtCode 25 = .ok (.ifCond .ne 5, 3) := by decide +kernel
theorem dX8_letterAtCode_28 : decode cX8_letterAtCode 28 = .ok (.iconst (-1), 1) := by decide +kernel
theorem dX8_letterAtCode_29 : decode cX8_letterAtCode 29 = .ok (.ireturn, 1) := by decide +kernel
theorem dX8_letterAtCode_30 : decode cX8_letterAtCode 30 = .ok (.aload_n 0, 1) := by decide +kernel
theorem dX8_letterAtCode_31 : decode cX8_letterAtCode 31 = .ok (.getfield 10, 3) := by decide +kernel
theorem dX8_letterAtCode_34 : decode cX8_letterAtCode 34 = .ok (.getfield 37, 3) := by decide +kernel
theorem dX8_letterAtCode_37 : decode cX8_letterAtCode 37 = .ok (.iload_n 1, 1) := by decide +kernel
theorem dX8_letterAtCode_38 : decode cX8_letterAtCode 38 = .ok (.iload_n 2, 1) := by decide +kernel
theorem dX8_letterAtCode_39 : decode cX8_letterAtCode 39 = .ok (.bipush 10, 2) := by decide +kernel
theorem dX8_letterAtCode_41 : decode cX8_letterAtCode 41 = .ok (.isub, 1) := by decide +kernel
theorem dX8_letterAtCode_42 : decode cX8_letterAtCode 42 = .ok (.invokevirtual 164, 3) := by decide +kernel
theorem dX8_letterAtCode_45 : decode cX8_letterAtCode 45 = .ok (.ireturn, 1) := by decide +kernel
theorem dX8_countOfRound_0 : decode cX8_countOfRound 0 = .ok (.iload_n 1, 1) := by decide +kernel
theorem dX8_countOfRound_1 : decode cX8_countOfRound 1 = .ok (.tableswitch 75 3 6 #[31, 42, 53, 64], 31) := by decide +kernel
theorem dX8_countOfRound_32 : decode cX8_countOfRound 32 = .ok (.aload_n 0, 1) := by decide +kernel
theorem dX8_countOfRound_33 : decode cX8_countOfRound 33 = .ok (.getfield 10, 3) := by decide +kernel
theorem dX8_countOfRound_36 : decode cX8_countOfRound 36 = .ok (.getfield 51, 3) := by decide +kernel
theorem dX8_countOfRound_39 : decode cX8_countOfRound 39 = .ok (.getfield 266, 3) := by decide +kernel
theorem dX8_countOfRound_42 : decode cX8_countOfRound 42 = .ok (.ireturn, 1) := by decide +kernel
theorem dX8_countOfRound_43 : decode cX8_countOfRound 43 = .ok (.aload_n 0, 1) := by decide +kernel
theorem dX8_countOfRound_44 : decode cX8_countOfRound 44 = .ok (.getfield 10, 3) := by decide +kernel
theorem dX8_countOfRound_47 : decode cX8_countOfRound 47 = .ok (.getfield 51, 3) := by decide +kernel
theorem dX8_countOfRound_50 : decode cX8_countOfRound 50 = .ok (.getfield 269, 3) := by decide +kernel
theorem dX8_countOfRound_53 : decode cX8_countOfRound 53 = .ok (.ireturn, 1) := by decide +kernel
theorem dX8_countOfRound_54 : decode cX8_countOfRound 54 = .ok (.aload_n 0, 1) := by decide +kernel
theorem dX8_countOfRound_55 : decode cX8_countOfRound 55 = .ok (.getfield 10, 3) := by decide +kernel
theorem dX8_countOfRound_58 : decode cX8_countOfRound 58 = .ok (.getfield 51, 3) := by decide +kernel
theorem dX8_countOfRound_61 : decode cX8_countOfRound 61 = .ok (.getfield 272, 3) := by decide +kernel
theorem dX8_countOfRound_64 : decode cX8_countOfRound 64 = .ok (.ireturn, 1) := by decide +kernel
theorem dX8_countOfRound_65 : decode cX8_countOfRound 65 = .ok (.aload_n 0, 1) := by decide +kernel
theorem dX8_countOfRound_66 : decode cX8_countOfRound 66 = .ok (.getfield 10, 3) := by decide +kernel
theorem dX8_countOfRound_69 : decode cX8_countOfRound 69 = .ok (.getfield 51, 3) := by decide +kernel
theorem dX8_countOfRound_72 : decode cX8_countOfRound 72 = .ok (.getfield 167, 3) := by decide +kernel
theorem dX8_countOfRound_75 : decode cX8_countOfRound 75 = .ok (.ireturn, 1) := by decide +kernel
theorem dX8_countOfRound_76 : decode cX8_countOfRound 76 = .ok (.aload_n 0, 1) := by decide +kernel
theorem dX8_countOfRound_77 : decode cX8_countOfRound 77 = .ok (.getfield 10, 3) := by decide +kernel
theorem dX8_countOfRound_80 : decode cX8_countOfRound 80 = .ok (.invokevirtual 274, 3) := by decide +kernel
theorem dX8_countOfRound_83 : decode cX8_countOfRound 83 = .ok (.ireturn, 1) := by decide +kernel
theorem dX8_countOfHall_0 : decode cX8_countOfHall 0 = .ok (.iload_n 1, 1) := by decide +kernel
theorem dX8_countOfHall_1 : decode cX8_countOfHall 1 = .ok (.tableswitch 180 0 14 #[75, 86, 97, 180, 180, 180, 180, 180, 116, 124, 132, 140, 151, 159, 167], 75) := by decide +kernel
theorem dX8_countOfHall_76 : decode cX8_countOfHall 76 = .ok (.aload_n 0, 1) := by decide +kernel
theorem dX8_countOfHall_77 : decode cX8_countOfHall 77 = .ok (.getfield 10, 3) := by decide +kernel
theorem dX8_countOfHall_80 : decode cX8_countOfHall 80 = .ok (.getfield 37, 3) := by decide +kernel
theorem dX8_countOfHall_83 : decode cX8_countOfHall 83 = .ok (.getfield 228, 3) := by decide +kernel
theorem dX8_countOfHall_86 : decode cX8_countOfHall 86 = .ok (.ireturn, 1) := by decide +kernel
theorem dX8_countOfHall_87 : decode cX8_countOfHall 87 = .ok (.aload_n 0, 1) := by decide +kernel
theorem dX8_countOfHall_88 : decode cX8_countOfHall 88 = .ok (.getfield 10, 3) := by decide +kernel
theorem dX8_countOfHall_91 : decode cX8_countOfHall 91 = .ok (.getfield 78, 3) := by decide +kernel
theorem dX8_countOfHall_94 : decode cX8_countOfHall 94 = .ok (.getfield 82, 3) := by decide +kernel
theorem dX8_countOfHall_97 : decode cX8_countOfHall 97 = .ok (.ireturn, 1) := by decide +kernel
theorem dX8_countOfHall_98 : decode cX8_countOfHall 98 = .ok (.aload_n 0, 1) := by decide +kernel
theorem dX8_countOfHall_99 : decode cX8_countOfHall 99 = .ok (.getfield 10, 3) := by decide +kernel
theorem dX8_countOfHall_102 : decode cX8_countOfHall 102 = .ok (.getfield 51, 3) := by decide +kernel
theorem dX8_countOfHall_105 : decode cX8_countOfHall 105 = .ok (.getfield 55, 3) := by decide +kernel
theorem dX8_countOfHall_108 : decode cX8_countOfHall 108 = .ok (.ifCond .eq 7, 3) := by decide +kernel
theorem dX8_countOfHall_111 : decode cX8_countOfHall 111 = .ok (.iconst 1, 1) := by decide +kernel
theorem dX8_countOfHall_112 : decode cX8_countOfHall 112 = .ok (.goto 4, 3) := by decide +kernel
theorem dX8_countOfHall_115 : decode cX8_countOfHall 115 = .ok (.iconst 0, 1) := by decide +kernel
theorem dX8_countOfHall_116 : decode cX8_countOfHall 116 = .ok (.ireturn, 1) := by decide +kernel
theorem dX8_countOfHall_117 : decode cX8_countOfHall 117 = .ok (.aload_n 0, 1) := by decide +kernel
theorem dX8_countOfHall_118 : decode cX8_countOfHall 118 = .ok (.getfield 10, 3) := by decide +kernel
theorem dX8_countOfHall_121 : decode cX8_countOfHall 121 = .ok (.getfield 277, 3) := by decide +kernel
theorem dX8_countOfHall_124 : decode cX8_countOfHall 124 = .ok (.ireturn, 1) := by decide +kernel
theorem dX8_countOfHall_125 : decode cX8_countOfHall 125 = .ok (.aload_n 0, 1) := by decide +kernel
theorem dX8_countOfHall_126 : decode cX8_countOfHall 126 = .ok (.getfield 10, 3) := by decide +kernel
theorem dX8_countOfHall_129 : decode cX8_countOfHall 129 = .ok (.getfield 280, 3) := by decide +kernel
theorem dX8_countOfHall_132 : decode cX8_countOfHall 132 = .ok (.ireturn, 1) := by decide +kernel
theorem dX8_countOfHall_133 : decode cX8_countOfHall 133 = .ok (.aload_n 0, 1) := by decide +kernel
theorem dX8_countOfHall_134 : decode cX8_countOfHall 134 = .ok (.getfield 10, 3) := by decide +kernel
theorem dX8_countOfHall_137 : decode cX8_countOfHall 137 = .ok (.getfield 100, 3) := by decide +kernel
theorem dX8_countOfHall_140 : decode cX8_countOfHall 140 = .ok (.ireturn, 1) := by decide +kernel
theorem dX8_countOfHall_141 : decode cX8_countOfHall 141 = .ok (.aload_n 0, 1) := by decide +kernel
theorem dX8_countOfHall_142 : decode cX8_countOfHall 142 = .ok (.getfield 10, 3) := by decide +kernel
theorem dX8_countOfHall_145 : decode cX8_countOfHall 145 = .ok (.getfield 37, 3) := by decide +kernel
theorem dX8_countOfHall_148 : decode cX8_countOfHall 148 = .ok (.invokevirtual 283, 3) := by decide +kernel
theorem dX8_countOfHall_151 : decode cX8_countOfHall 151 = .ok (.ireturn, 1) := by decide +kernel
theorem dX8_countOfHall_152 : decode cX8_countOfHall 152 = .ok (.aload_n 0, 1) := by decide +kernel
theorem dX8_countOfHall_153 : decode cX8_countOfHall 153 = .ok (.getfield 22, 3) := by decide +kernel
theorem dX8_countOfHall_156 : decode cX8_countOfHall 156 = .ok (.getfield 238, 3) := by decide +kernel
theorem dX8_countOfHall_159 : decode cX8_countOfHall 159 = .ok (.ireturn, 1) := by decide +kernel
theorem dX8_countOfHall_160 : decode cX8_countOfHall 160 = .ok (.aload_n 0, 1) := by decide +kernel
theorem dX8_countOfHall_161 : decode cX8_countOfHall 161 = .ok (.getfield 29, 3) := by decide +kernel
theorem dX8_countOfHall_164 : decode cX8_countOfHall 164 = .ok (.getfield 242, 3) := by decide +kernel
theorem dX8_countOfHall_167 : decode cX8_countOfHall 167 = .ok (.ireturn, 1) := by decide +kernel
theorem dX8_countOfHall_168 : decode cX8_countOfHall 168 = .ok (.aload_n 0, 1) := by decide +kernel
theorem dX8_countOfHall_169 : decode cX8_countOfHall 169 = .ok (.getfield 33, 3) := by decide +kernel
theorem dX8_countOfHall_172 : decode cX8_countOfHall 172 = .ok (.ifCond .eq 7, 3) := by decide +kernel
theorem dX8_countOfHall_175 : decode cX8_countOfHall 175 = .ok (.iconst 1, 1) := by decide +kernel
theorem dX8_countOfHall_176 : decode cX8_countOfHall 176 = .ok (.goto 4, 3) := by decide +kernel
theorem dX8_countOfHall_179 : decode cX8_countOfHall 179 = .ok (.iconst 0, 1) := by decide +kernel
theorem dX8_countOfHall_180 : decode cX8_countOfHall 180 = .ok (.ireturn, 1) := by decide +kernel
theorem dX8_countOfHall_181 : decode cX8_countOfHall 181 = .ok (.aload_n 0, 1) := by decide +kernel
theorem dX8_countOfHall_182 : decode cX8_countOfHall 182 = .ok (.getfield 10, 3) := by decide +kernel
theorem dX8_countOfHall_185 : decode cX8_countOfHall 185 = .ok (.getfield 97, 3) := by decide +kernel
theorem dX8_countOfHall_188 : decode cX8_countOfHall 188 = .ok (.ireturn, 1) := by decide +kernel
theorem dX8_isBetween_0 : decode cX8_isBetween 0 = .ok (.iload_n 0, 1) := by decide +kernel
theorem dX8_isBetween_1 : decode cX8_isBetween 1 = .ok (.iload_n 1, 1) := by decide +kernel
theorem dX8_isBetween_2 : decode cX8_isBetween 2 = .ok (.if_icmp .lt 12, 3) := by decide +kernel
theorem dX8_isBetween_5 : decode cX8_isBetween 5 = .ok (.iload_n 0, 1) := by decide +kernel
theorem dX8_isBetween_6 : decode cX8_isBetween 6 = .ok (.iload_n 2, 1) := by decide +kernel
theorem dX8_isBetween_7 : decode cX8_isBetween 7 = .ok (.if_icmp .gt 7, 3) := by decide +kernel
theorem dX8_isBetween_10 : decode cX8_isBetween 10 = .ok (.iconst 1, 1) := by decide +kernel
theorem dX8_isBetween_11 : decode cX8_isBetween 11 = .ok (.goto 4, 3) := by decide +kernel
theorem dX8_isBetween_14 : decode cX8_isBetween 14 = .ok (.iconst 0, 1) := by decide +kernel
theorem dX8_isBetween_15 : decode cX8_isBetween 15 = .ok (.ireturn, 1) := by decide +kernel
theorem dX8_isLetter_0 : decode cX8_isLetter 0 = .ok (.iload_n 0, 1) := by decide +kernel
theorem dX8_isLetter_1 : decode cX8_isLetter 1 = .ok (.iconst 0, 1) := by decide +kernel
theorem dX8_isLetter_2 : decode cX8_isLetter 2 = .ok (.bipush 25, 2) := by decide +kernel
theorem dX8_isLetter_4 : decode cX8_isLetter 4 = .ok (.invokestatic 47, 3) := by decide +kernel
theorem dX8_isLetter_7 : decode cX8_isLetter 7 = .ok (.ireturn, 1) := by decide +kernel
theorem dX8_holds_0 : decode cX8_holds 0 = .ok (.iload_n 0, 1) := by decide +kernel
theorem dX8_holds_1 : decode cX8_holds 1 = .ok (.iconst 1, 1) := by decide +kernel
theorem dX8_holds_2 : decode cX8_holds 2 = .ok (.iload_n 1, 1) := by decide +kernel
theorem dX8_holds_3 : decode cX8_holds 3 = .ok (.ishl, 1) := by decide +kernel
theorem dX8_holds_4 : decode cX8_holds 4 = .ok (.iand, 1) := by decide +kernel
theorem dX8_holds_5 : decode cX8_holds 5 = .ok (.ifCond .eq 7, 3) := by decide +kernel
theorem dX8_holds_8 : decode cX8_holds 8 = .ok (.iconst 1, 1) := by decide +kernel
theorem dX8_holds_9 : decode cX8_holds 9 = .ok (.goto 4, 3) := by decide +kernel
theorem dX8_holds_12 : decode cX8_holds 12 = .ok (.iconst 0, 1) := by decide +kernel
theorem dX8_holds_13 : decode cX8_holds 13 = .ok (.ireturn, 1) := by decide +kernel
theorem dX8_numberBehind_0 : decode cX8_numberBehind 0 = .ok (.iload_n 0, 1) := by decide +kernel
theorem dX8_numberBehind_1 : decode cX8_numberBehind 1 = .ok (.i2l, 1) := by decide +kernel
theorem dX8_numberBehind_2 : decode cX8_numberBehind 2 = .ok (.ldc2_w 286, 3) := by decide +kernel
theorem dX8_numberBehind_5 : decode cX8_numberBehind 5 = .ok (.lmul, 1) := by decide +kernel
theorem dX8_numberBehind_6 : decode cX8_numberBehind 6 = .ok (.ldc2_w 288, 3) := by decide +kernel
theorem dX8_numberBehind_9 : decode cX8_numberBehind 9 = .ok (.ladd, 1) := by decide +kernel
theorem dX8_numberBehind_10 : decode cX8_numberBehind 10 = .ok (.ldc2_w 290, 3) := by decide +kernel
theorem dX8_numberBehind_13 : decode cX8_numberBehind 13 = .ok (.lrem, 1) := by decide +kernel
theorem dX8_numberBehind_14 : decode cX8_numberBehind 14 = .ok (.l2i, 1) := by decide +kernel
theorem dX8_numberBehind_15 : decode cX8_numberBehind 15 = .ok (.ireturn, 1) := by decide +kernel
theorem dX8_chanceOf_0 : decode cX8_chanceOf 0 = .ok (.iload_n 1, 1) := by decide +kernel
theorem dX8_chanceOf_1 : decode cX8_chanceOf 1 = .ok (.ifCond .le 11, 3) := by decide +kernel
theorem dX8_chanceOf_4 : decode cX8_chanceOf 4 = .ok (.iload_n 0, 1) := by decide +kernel
theorem dX8_chanceOf_5 : decode cX8_chanceOf 5 = .ok (.i2f, 1) := by decide +kernel
theorem dX8_chanceOf_6 : decode cX8_chanceOf 6 = .ok (.iload_n 1, 1) := by decide +kernel
theorem dX8_chanceOf_7 : decode cX8_chanceOf 7 = .ok (.i2f, 1) := by decide +kernel
theorem dX8_chanceOf_8 : decode cX8_chanceOf 8 = .ok (.fdiv, 1) := by decide +kernel
theorem dX8_chanceOf_9 : decode cX8_chanceOf 9 = .ok (.goto 4, 3) := by decide +kernel
theorem dX8_chanceOf_12 : decode cX8_chanceOf 12 = .ok (.fconst 0, 1) := by decide +kernel
theorem dX8_chanceOf_13 : decode cX8_chanceOf 13 = .ok (.freturn, 1) := by decide +kernel
theorem dX8_bitsOf_0 : decode cX8_bitsOf 0 = .ok (.fload_n 0, 1) := by decide +kernel
theorem dX8_bitsOf_1 : decode cX8_bitsOf 1 = .ok (.fconst 0, 1) := by decide +kernel
theorem dX8_bitsOf_2 : decode cX8_bitsOf 2 = .ok (.fcmp .l, 1) := by decide +kernel
theorem dX8_bitsOf_3 : decode cX8_bitsOf 3 = .ok (.ifCond .gt 5, 3) := by decide +kernel
theorem dX8_bitsOf_6 : decode cX8_bitsOf 6 = .ok (.iconst 0, 1) := by decide +kernel
theorem dX8_bitsOf_7 : decode cX8_bitsOf 7 = .ok (.ireturn, 1) := by decide +kernel
theorem dX8_bitsOf_8 : decode cX8_bitsOf 8 = .ok (.fload_n 0, 1) := by decide +kernel
theorem dX8_bitsOf_9 : decode cX8_bitsOf 9 = .ok (.fstore_n 1, 1) := by decide +kernel
theorem dX8_bitsOf_10 : decode cX8_bitsOf 10 = .ok (.bipush 127, 2) := by decide +kernel
theorem dX8_bitsOf_12 : decode cX8_bitsOf 12 = .ok (.istore_n 2, 1) := by decide +kernel
theorem dX8_bitsOf_13 : decode cX8_bitsOf 13 = .ok (.iconst 0, 1) := by decide +kernel
theorem dX8_bitsOf_14 : decode cX8_bitsOf 14 = .ok (.istore_n 3, 1) := by decide +kernel
theorem dX8_bitsOf_15 : decode cX8_bitsOf 15 = .ok (.iload_n 3, 1) := by decide +kernel
theorem dX8_bitsOf_16 : decode cX8_bitsOf 16 = .ok (.bipush 126, 2) := by decide +kernel
theorem dX8_bitsOf_18 : decode cX8_bitsOf 18 = .ok (.if_icmp .ge 22, 3) := by decide +kernel
theorem dX8_bitsOf_21 : decode cX8_bitsOf 21 = .ok (.fload_n 1, 1) := by decide +kernel
theorem dX8_bitsOf_22 : decode cX8_bitsOf 22 = .ok (.fconst 1, 1) := by decide +kernel
theorem dX8_bitsOf_23 : decode cX8_bitsOf 23 = .ok (.fcmp .g, 1) := by decide +kernel
theorem dX8_bitsOf_24 : decode cX8_bitsOf 24 = .ok (.ifCond .ge 16, 3) := by decide +kernel
theorem dX8_bitsOf_27 : decode cX8_bitsOf 27 = .ok (.fload_n 1, 1) := by decide +kernel
theorem dX8_bitsOf_28 : decode cX8_bitsOf 28 = .ok (.fconst 2, 1) := by decide +kernel
theorem dX8_bitsOf_29 : decode cX8_bitsOf 29 = .ok (.fmul, 1) := by decide +kernel
theorem dX8_bitsOf_30 : decode cX8_bitsOf 30 = .ok (.fstore_n 1, 1) := by decide +kernel
theorem dX8_bitsOf_31 : decode cX8_bitsOf 31 = .ok (.iinc 2 (-1), 3) := by decide +kernel
theorem dX8_bitsOf_34 : decode cX8_bitsOf 34 = .ok (.iinc 3 1, 3) := by decide +kernel
theorem dX8_bitsOf_37 : decode cX8_bitsOf 37 = .ok (.goto (-22), 3) := by decide +kernel
theorem dX8_bitsOf_40 : decode cX8_bitsOf 40 = .ok (.iload_n 2, 1) := by decide +kernel
theorem dX8_bitsOf_41 : decode cX8_bitsOf 41 = .ok (.bipush 23, 2) := by decide +kernel
theorem dX8_bitsOf_43 : decode cX8_bitsOf 43 = .ok (.ishl, 1) := by decide +kernel
theorem dX8_bitsOf_44 : decode cX8_bitsOf 44 = .ok (.fload_n 1, 1) := by decide +kernel
theorem dX8_bitsOf_45 : decode cX8_bitsOf 45 = .ok (.fconst 1, 1) := by decide +kernel
theorem dX8_bitsOf_46 : decode cX8_bitsOf 46 = .ok (.fsub, 1) := by decide +kernel
theorem dX8_bitsOf_47 : decode cX8_bitsOf 47 = .ok (.ldc_w 292, 3) := by decide +kernel
theorem dX8_bitsOf_50 : decode cX8_bitsOf 50 = .ok (.fmul, 1) := by decide +kernel
theorem dX8_bitsOf_51 : decode cX8_bitsOf 51 = .ok (.f2i, 1) := by decide +kernel
theorem dX8_bitsOf_52 : decode cX8_bitsOf 52 = .ok (.iadd, 1) := by decide +kernel
theorem dX8_bitsOf_53 : decode cX8_bitsOf 53 = .ok (.ireturn, 1) := by decide +kernel
theorem dX9_init_0 : decode cX9_init 0 = .ok (.aload_n 0, 1) := by decide +kernel
theorem dX9_init_1 : decode cX9_init 1 = .ok (.invokespecial 1, 3) := by decide +kernel
theorem dX9_init_4 : decode cX9_init 4 = .ok (.aload_n 0, 1) := by decide +kernel
theorem dX9_init_5 : decode cX9_init 5 = .ok (.sipush 246, 3) := by decide +kernel
theorem dX9_init_8 : decode cX9_init 8 = .ok (.newarray .int, 2) := by decide +kernel
theorem dX9_init_10 : decode cX9_init 10 = .ok (.putfield 7, 3) := by decide +kernel
theorem dX9_init_13 : decode cX9_init 13 = .ok (.aload_n 0, 1) := by decide +kernel
theorem dX9_init_14 : decode cX9_init 14 = .ok (.sipush 984, 3) := by decide +kernel
theorem dX9_init_17 : decode cX9_init 17 = .ok (.newarray .int, 2) := by decide +kernel
theorem dX9_init_19 : decode cX9_init 19 = .ok (.putfield 13, 3) := by decide +kernel
theorem dX9_init_22 : decode cX9_init 22 = .ok (.aload_n 0, 1) := by decide +kernel
theorem dX9_init_23 : decode cX9_init 23 = .ok (.sipush 246, 3) := by decide +kernel
theorem dX9_init_26 : decode cX9_init 26 = .ok (.newarray .int, 2) := by decide +kernel
theorem dX9_init_28 : decode cX9_init 28 = .ok (.putfield 16, 3) := by decide +kernel
theorem dX9_init_31 : decode cX9_init 31 = .ok (.aload_n 0, 1) := by decide +kernel
theorem dX9_init_32 : decode cX9_init 32 = .ok (.bipush 120, 2) := by decide +kernel
theorem dX9_init_34 : decode cX9_init 34 = .ok (.newarray .int, 2) := by decide +kernel
theorem dX9_init_36 : decode cX9_init 36 = .ok (.putfield 19, 3) := by decide +kernel
theorem dX9_init_39 : decode cX9_init 39 = .ok (.aload_n 0, 1) := by decide +kernel
theorem dX9_init_40 : decode cX9_init 40 = .ok (.sipush 160, 3) := by decide +kernel
theorem dX9_init_43 : decode cX9_init 43 = .ok (.newarray .int, 2) := by decide +kernel
theorem dX9_init_45 : decode cX9_init 45 = .ok (.putfield 22, 3) := by decide +kernel
theorem dX9_init_48 : decode cX9_init 48 = .ok (.aload_n 0, 1) := by decide +kernel
theorem dX9_init_49 : decode cX9_init 49 = .ok (.getfield 7, 3) := by decide +kernel
theorem dX9_init_52 : decode cX9_init 52 = .ok (.bipush 10, 2) := by decide +kernel
theorem dX9_init_54 : decode cX9_init 54 = .ok (.iconst 1, 1) := by decide +kernel
theorem dX9_init_55 : decode cX9_init 55 = .ok (.iastore, 1) := by decide +kernel
theorem dX9_init_56 : decode cX9_init 56 = .ok (.aload_n 0, 1) := by decide +kernel
theorem dX9_init_57 : decode cX9_init 57 = .ok (.getfield 7, 3) := by decide +kernel
theorem dX9_init_60 : decode cX9_init 60 = .ok (.bipush 11, 2) := by decide +kernel
theorem dX9_init_62 : decode cX9_init 62 = .ok (.bipush 7, 2) := by decide +kernel
theorem dX9_init_64 : decode cX9_init 64 = .ok (.iastore, 1) := by decide +kernel
theorem dX9_init_65 : decode cX9_init 65 = .ok (.aload_n 0, 1) := by decide +kernel
theorem dX9_init_66 : decode cX9_init 66 = .ok (.getfield 7, 3) := by decide +kernel
theorem dX9_init_69 : decode cX9_init 69 = .ok (.bipush 12, 2) := by decide +kernel
theorem dX9_init_71 : decode cX9_init 71 = .ok (.iconst (-1), 1) := by decide +kernel
theorem dX9_init_72 : decode cX9_init 72 = .ok (.iastore, 1) := by decide +kernel
theorem dX9_init_73 : decode cX9_init 73 = .ok (.return_, 1) := by decide +kernel
theorem dX9_in_0 : decode cX9_in 0 = .ok (.iload_n 0, 1) := by decide +kernel
theorem dX9_in_1 : decode cX9_in 1 = .ok (.iload_n 1, 1) := by decide +kernel
theorem dX9_in_2 : decode cX9_in 2 = .ok (.if_icmp .lt 12, 3) := by decide +kernel
theorem dX9_in_5 : decode cX9_in 5 = .ok (.iload_n 0, 1) := by decide +kernel
theorem dX9_in_6 : decode cX9_in 6 = .ok (.iload_n 2, 1) := by decide +kernel
theorem dX9_in_7 : decode cX9_in 7 = .ok (.if_icmp .gt 7, 3) := by decide +kernel
theorem dX9_in_10 : decode cX9_in 10 = .ok (.iconst 1, 1) := by decide +kernel
theorem dX9_in_11 : decode cX9_in 11 = .ok (.goto 4, 3) := by decide +kernel
theorem dX9_in_14 : decode cX9_in 14 = .ok (.iconst 0, 1) := by decide +kernel
theorem dX9_in_15 : decode cX9_in 15 = .ok (.ireturn, 1) := by decide +kernel
theorem dX9_copies_0 : decode cX9_copies 0 = .ok (.iconst 0, 1) := by decide +kernel
theorem dX9_copies_1 : decode cX9_copies 1 = .ok (.istore_n 2, 1) := by decide +kernel
theorem dX9_copies_2 : decode cX9_copies 2 = .ok (.iload_n 2, 1) := by decide +kernel
theorem dX9_copies_3 : decode cX9_copies 3 = .ok (.sipush 246, 3) := by decide +kernel
theorem dX9_copies_6 : decode cX9_copies 6 = .ok (.if_icmp .ge 15, 3) := by decide +kernel
theorem dX9_copies_9 : decode cX9_copies 9 = .ok (.aload_n 1, 1) := by decide +kernel
theorem dX9_copies_10 : decode cX9_copies 10 = .ok (.iload_n 2, 1) := by decide +kernel
theorem dX9_copies_11 : decode cX9_copies 11 = .ok (.aload_n 0, 1) := by decide +kernel
theorem dX9_copies_12 : decode cX9_copies 12 = .ok (.iload_n 2, 1) := by decide +kernel
theorem dX9_copies_13 : decode cX9_copies 13 = .ok (.iaload, 1) := by decide +kernel
theorem dX9_copies_14 : decode cX9_copies 14 = .ok (.iastore, 1) := by decide +kernel
theorem dX9_copies_15 : decode cX9_copies 15 = .ok (.iinc 2 1, 3) := by decide +kernel
theorem dX9_copies_18 : decode cX9_copies 18 = .ok (.goto (-16), 3) := by decide +kernel
theorem dX9_copies_21 : decode cX9_copies 21 = .ok (.return_, 1) := by decide +kernel
theorem dX9_changes_0 : decode cX9_changes 0 = .ok (.aload_n 0, 1) := by decide +kernel
theorem dX9_changes_1 : decode cX9_changes 1 = .ok (.getfield 25, 3) := by decide +kernel
theorem dX9_changes_4 : decode cX9_changes 4 = .ok (.iconst 4, 1) := by decide +kernel
theorem dX9_changes_5 : decode cX9_changes 5 = .ok (.if_icmp .ne 44, 3) := by decide +kernel
theorem dX9_changes_8 : decode cX9_changes 8 = .ok (.iconst 0, 1) := by decide +kernel
theorem dX9_changes_9 : decode cX9_changes 9 = .ok (.istore_n 1, 1) := by decide +kernel
theorem dX9_changes_10 : decode cX9_changes 10 = .ok (.iload_n 1, 1) := by decide +kernel
theorem dX9_changes_11 : decode cX9_changes 11 = .ok (.sipush 738, 3) := by decide +kernel
theorem dX9_changes_14 : decode cX9_changes 14 = .ok (.if_icmp .ge 25, 3) := by decide +kernel
theorem dX9_changes_17 : decode cX9_changes 17 = .ok (.aload_n 0, 1) := by decide +kernel
theorem dX9_changes_18 : decode cX9_changes 18 = .ok (.getfield 13, 3) := by decide +kernel
theorem dX9_changes_21 : decode cX9_changes 21 = .ok (.iload_n 1, 1) := by decide +kernel
theorem dX9_changes_22 : decode cX9_changes 22 = .ok (.aload_n 0, 1) := by decide +kernel
theorem dX9_changes_23 : decode cX9_changes 23 = .ok (.getfield 13, 3) := by decide +kernel
theorem dX9_changes_26 : decode cX9_changes 26 = .ok (.iload_n 1, 1) := by decide +kernel
theorem dX9_changes_27 : decode cX9_changes 27 = .ok (.sipush 246, 3) := by decide +kernel
theorem dX9_changes_30 : decode cX9_changes 30 = .ok (.iadd, 1) := by decide +kernel
theorem dX9_changes_31 : decode cX9_changes 31 = .ok (.iaload, 1) := by decide +kernel
theorem dX9_changes_32 : decode cX9_changes 32 = .ok (.iastore, 1) := by decide +kernel
theorem dX9_changes_33 : decode cX9_changes 33 = .ok (.iinc 1 1, 3) := by decide +kernel
theorem dX9_changes_36 : decode cX9_changes 36 = .ok (.goto (-26), 3) := by decide +kernel
theorem dX9_changes_39 : decode cX9_changes 39 = .ok (.aload_n 0, 1) := by decide +kernel
theorem dX9_changes_40 : decode cX9_changes 40 = .ok (.dup, 1) := by decide +kernel
theorem dX9_changes_41 : decode cX9_changes 41 = .ok (.getfield 25, 3) := by decide +kernel
theorem dX9_changes_44 : decode cX9_changes 44 = .ok (.iconst 1, 1) := by decide +kernel
theorem dX9_changes_45 : decode cX9_changes 45 = .ok (.isub, 1) := by decide +kernel
theorem dX9_changes_46 : decode cX9_changes 46 = .ok (.putfield 25, 3) := by decide +kernel
theorem dX9_changes_49 : decode cX9_changes 49 = .ok (.iconst 0, 1) := by decide +kernel
theorem dX9_changes_50 : decode cX9_changes 50 = .ok (.istore_n 1, 1) := by decide +kernel
theorem dX9_changes_51 : decode cX9_changes 51 = .ok (.iload_n 1, 1) := by decide +kernel
theorem dX9_changes_52 : decode cX9_changes 52 = .ok (.sipush 246, 3) := by decide +kernel
theorem dX9_changes_55 : decode cX9_changes 55 = .ok (.if_icmp .ge 30, 3) := by decide +kernel
theorem dX9_changes_58 : decode cX9_changes 58 = .ok (.aload_n 0, 1) := by decide +kernel
theorem dX9_changes_59 : decode cX9_changes 59 = .ok (.getfield 13, 3) := by decide +kernel
theorem dX9_changes_62 : decode cX9_changes 62 = .ok (.sipush 246, 3) := by decide +kernel
theorem dX9_changes_65 : decode cX9_changes 65 = .ok (.aload_n 0, 1) := by decide +kernel
theorem dX9_changes_66 : decode cX9_changes 66 = .ok (.getfield 25, 3) := by decide +kernel
theorem dX9_changes_69 : decode cX9_changes 69 = .ok (.imul, 1) := by decide +kernel
theorem dX9_changes_70 : decode cX9_changes 70 = .ok (.iload_n 1, 1) := by decide +kernel
theorem dX9_changes_71 : decode cX9_changes 71 = .ok (.iadd, 1) := by decide +kernel
theorem dX9_changes_72 : decode cX9_changes 72 = .ok (.aload_n 0, 1) := by decide +kernel
theorem dX9_changes_73 : decode cX9_changes 73 = .ok (.getfield 7, 3) := by decide +kernel
theorem dX9_changes_76 : decode cX9_changes 76 = .ok (.iload_n 1, 1) := by decide +kernel
theorem dX9_changes_77 : decode cX9_changes 77 = .ok (.iaload, 1) := by decide +kernel
theorem dX9_changes_78 : decode cX9_changes 78 = .ok (.iastore, 1) := by decide +kernel
theorem dX9_changes_79 : decode cX9_changes 79 = .ok (.iinc 1 1, 3) := by decide +kernel
theorem dX9_changes_82 : decode cX9_changes 82 = .ok (.goto (-31), 3) := by decide +kernel
theorem dX9_changes_85 : decode cX9_changes 85 = .ok (.aload_n 0, 1) := by decide +kernel
theorem dX9_changes_86 : decode cX9_changes 86 = .ok (.dup, 1) := by decide +kernel
theorem dX9_changes_87 : decode cX9_changes 87 = .ok (.getfield 25, 3) := by decide +kernel
theorem dX9_changes_90 : decode cX9_changes 90 = .ok (.iconst 1, 1) := by decide +kernel
theorem dX9_changes_91 : decode cX9_changes 91 = .ok (.iadd, 1) := by decide +kernel
theorem dX9_changes_92 : decode cX9_changes 92 = .ok (.putfield 25, 3) := by decide +kernel
theorem dX9_changes_95 : decode cX9_changes 95 = .ok (.return_, 1) := by decide +kernel
theorem dX9_runs_0 : decode cX9_runs 0 = .ok (.aload_n 0, 1) := by decide +kernel
theorem dX9_runs_1 : decode cX9_runs 1 = .ok (.getfield 7, 3) := by decide +kernel
theorem dX9_runs_4 : decode cX9_runs 4 = .ok (.iconst 2, 1) := by decide +kernel
theorem dX9_runs_5 : decode cX9_runs 5 = .ok (.iaload, 1) := by decide +kernel
theorem dX9_runs_6 : decode cX9_runs 6 = .ok (.iconst 1, 1) := by decide +kernel
theorem dX9_runs_7 : decode cX9_runs 7 = .ok (.if_icmp .ne 7, 3) := by decide +kernel
theorem dX9_runs_10 : decode cX9_runs 10 = .ok (.iconst 1, 1) := by decide +kernel
theorem dX9_runs_11 : decode cX9_runs 11 = .ok (.goto 4, 3) := by decide +kernel
theorem dX9_runs_14 : decode cX9_runs 14 = .ok (.iconst 0, 1) := by decide +kernel
theorem dX9_runs_15 : decode cX9_runs 15 = .ok (.ireturn, 1) := by decide +kernel
theorem dX9_isWord_0 : decode cX9_isWord 0 = .ok (.iload_n 1, 1) := by decide +kernel
theorem dX9_isWord_1 : decode cX9_isWord 1 = .ok (.ifCond .lt 17, 3) := by decide +kernel
theorem dX9_isWord_4 : decode cX9_isWord 4 = .ok (.iload_n 1, 1) := by decide +kernel
theorem dX9_isWord_5 : decode cX9_isWord 5 = .ok (.aload_n 0, 1) := by decide +kernel
theorem dX9_isWord_6 : decode cX9_isWord 6 = .ok (.getfield 7, 3) := by decide +kernel
theorem dX9_isWord_9 : decode cX9_isWord 9 = .ok (.iconst 0, 1) := by decide +kernel
theorem dX9_isWord_10 : decode cX9_isWord 10 = .ok (.iaload, 1) := by decide +kernel
theorem dX9_isWord_11 : decode cX9_isWord 11 = .ok (.if_icmp .ge 7, 3) := by decide +kernel
theorem dX9_isWord_14 : decode cX9_isWord 14 = .ok (.iconst 1, 1) := by decide +kernel
theorem dX9_isWord_15 : decode cX9_isWord 15 = .ok (.goto 4, 3) := by decide +kernel
theorem dX9_isWord_18 : decode cX9_isWord 18 = .ok (.iconst 0, 1) := by decide +kernel
theorem dX9_isWord_19 : decode cX9_isWord 19 = .ok (.ireturn, 1) := by decide +kernel
theorem dX9_isPlayer_0 : decode cX9_isPlayer 0 = .ok (.iload_n 1, 1) := by decide +kernel
theorem dX9_isPlayer_1 : decode cX9_isPlayer 1 = .ok (.ifCond .lt 17, 3) := by decide +kernel
theorem dX9_isPlayer_4 : decode cX9_isPlayer 4 = .ok (.iload_n 1, 1) := by decide +kernel
theorem dX9_isPlayer_5 : decode cX9_isPlayer 5 = .ok (.aload_n 0, 1) := by decide +kernel
theorem dX9_isPlayer_6 : decode cX9_isPlayer 6 = .ok (.getfield 7, 3) := by decide +kernel
theorem dX9_isPlayer_9 : decode cX9_isPlayer 9 = .ok (.iconst 1, 1) := by decide +kernel
theorem dX9_isPlayer_10 : decode cX9_isPlayer 10 = .ok (.iaload, 1) := by decide +kernel
theorem dX9_isPlayer_11 : decode cX9_isPlayer 11 = .ok (.if_icmp .ge 7, 3) := by decide +kernel
theorem dX9_isPlayer_14 : decode cX9_isPlayer 14 = .ok (.iconst 1, 1) := by decide +kernel
theorem dX9_isPlayer_15 : decode cX9_isPlayer 15 = .ok (.goto 4, 3) := by decide +kernel
theorem dX9_isPlayer_18 : decode cX9_isPlayer 18 = .ok (.iconst 0, 1) := by decide +kernel
theorem dX9_isPlayer_19 : decode cX9_isPlayer 19 = .ok (.ireturn, 1) := by decide +kernel
theorem dX9_of_0 : decode cX9_of 0 = .ok (.aload_n 0, 1) := by decide +kernel
theorem dX9_of_1 : decode cX9_of 1 = .ok (.getfield 7, 3) := by decide +kernel
theorem dX9_of_4 : decode cX9_of 4 = .ok (.bipush 16, 2) := by decide +kernel
theorem dX9_of_6 : decode cX9_of 6 = .ok (.bipush 11, 2) := by decide +kernel
theorem dX9_of_8 : decode cX9_of 8 = .ok (.iload_n 1, 1) := by decide +kernel
theorem dX9_of_9 : decode cX9_of 9 = .ok (.imul, 1) := by decide +kernel
theorem dX9_of_10 : decode cX9_of 10 = .ok (.iadd, 1) := by decide +kernel
theorem dX9_of_11 : decode cX9_of 11 = .ok (.iload_n 2, 1) := by decide +kernel
theorem dX9_of_12 : decode cX9_of 12 = .ok (.iadd, 1) := by decide +kernel
theorem dX9_of_13 : decode cX9_of 13 = .ok (.iaload, 1) := by decide +kernel
theorem dX9_of_14 : decode cX9_of 14 = .ok (.ireturn, 1) := by decide +kernel
theorem dX9_letterAt_0 : decode cX9_letterAt 0 = .ok (.aload_n 0, 1) := by decide +kernel
theorem dX9_letterAt_1 : decode cX9_letterAt 1 = .ok (.iload_n 1, 1) := by decide +kernel
theorem dX9_letterAt_2 : decode cX9_letterAt 2 = .ok (.iconst 3, 1) := by decide +kernel
theorem dX9_letterAt_3 : decode cX9_letterAt 3 = .ok (.iload_n 2, 1) := by decide +kernel
theorem dX9_letterAt_4 : decode cX9_letterAt 4 = .ok (.iadd, 1) := by decide +kernel
theorem dX9_letterAt_5 : decode cX9_letterAt 5 = .ok (.invokevirtual 29, 3) := by decide +kernel
theorem dX9_letterAt_8 : decode cX9_letterAt 8 = .ok (.ireturn, 1) := by decide +kernel
theorem dX9_at_0 : decode cX9_at 0 = .ok (.sipush 192, 3) := by decide +kernel
theorem dX9_at_3 : decode cX9_at 3 = .ok (.bipush 6, 2) := by decide +kernel
theorem dX9_at_5 : decode cX9_at 5 = .ok (.iload_n 0, 1) := by decide +kernel
theorem dX9_at_6 : decode cX9_at 6 = .ok (.imul, 1) := by decide +kernel
theorem dX9_at_7 : decode cX9_at 7 = .ok (.iadd, 1) := by decide +kernel
theorem dX9_at_8 : decode cX9_at 8 = .ok (.iload_n 1, 1) := by decide +kernel
theorem dX9_at_9 : decode cX9_at 9 = .ok (.iadd, 1) := by decide +kernel
theorem dX9_at_10 : decode cX9_at 10 = .ok (.ireturn, 1) := by decide +kernel
theorem dX9_places_0 : decode cX9_places 0 = .ok (.iconst 0, 1) := by decide +kernel
theorem dX9_places_1 : decode cX9_places 1 = .ok (.istore_n 3, 1) := by decide +kernel
theorem dX9_places_2 : decode cX9_places 2 = .ok (.iconst 0, 1) := by decide +kernel
theorem dX9_places_3 : decode cX9_places 3 = .ok (.istore 4, 2) := by decide +kernel
theorem dX9_places_5 : decode cX9_places 5 = .ok (.iload 4, 2) := by decide +kernel
theorem dX9_places_7 : decode cX9_places 7 = .ok (.aload_n 0, 1) := by decide +kernel
theorem dX9_places_8 : decode cX9_places 8 = .ok (.iload_n 1, 1) := by decide +kernel
theorem dX9_places_9 : decode cX9_places 9 = .ok (.iconst 0, 1) := by decide +kernel
theorem dX9_places_10 : decode cX9_places 10 = .ok (.invokevirtual 29, 3) := by decide +kernel
theorem dX9_places_13 : decode cX9_places 13 = .ok (.if_icmp .ge 31, 3) := by decide +kernel
theorem dX9_places_16 : decode cX9_places 16 = .ok (.iload_n 3, 1) := by decide +kernel
theorem dX9_places_17 : decode cX9_places 17 = .ok (.aload_n 0, 1) := by decide +kernel
theorem dX9_places_18 : decode cX9_places 18 = .ok (.iload_n 1, 1) := by decide +kernel
theorem dX9_places_19 : decode cX9_places 19 = .ok (.iload 4, 2) := by decide +kernel
theorem dX9_places_21 : decode cX9_places 21 = .ok (.invokevirtual 33, 3) := by decide +kernel
theorem dX9_places_24 : decode cX9_places 24 = .ok (.iload_n 2, 1) := by decide +kernel
theorem dX9_places_25 : decode cX9_places 25 = .ok (.if_icmp .ne 10, 3) := by decide +kernel
theorem dX9_places_28 : decode cX9_places 28 = .ok (.iconst 1, 1) := by decide +kernel
theorem dX9_places_29 : decode cX9_places 29 = .ok (.iload 4, 2) := by decide +kernel
theorem dX9_places_31 : decode cX9_places 31 = .ok (.ishl, 1) := by decide +kernel
theorem dX9_places_32 : decode cX9_places 32 = .ok (.goto 4, 3) := by decide +kernel
theorem dX9_places_35 : decode cX9_places 35 = .ok (.iconst 0, 1) := by decide +kernel
theorem dX9_places_36 : decode cX9_places 36 = .ok (.ior, 1) := by decide +kernel
theorem dX9_places_37 : decode cX9_places 37 = .ok (.istore_n 3, 1) := by decide +kernel
theorem dX9_places_38 : decode cX9_places 38 = .ok (.iinc 4 1, 3) := by decide +kernel
theorem dX9_places_41 : decode cX9_places 41 = .ok (.goto (-36), 3) := by decide +kernel
theorem dX9_places_44 : decode cX9_places 44 = .ok (.iload_n 3, 1) := by decide +kernel
theorem dX9_places_45 : decode cX9_places 45 = .ok (.ireturn, 1) := by decide +kernel
theorem dX9_ones_0 : decode cX9_ones 0 = .ok (.iconst 0, 1) := by decide +kernel
theorem dX9_ones_1 : decode cX9_ones 1 = .ok (.istore_n 1, 1) := by decide +kernel
theorem dX9_ones_2 : decode cX9_ones 2 = .ok (.iload_n 0, 1) := by decide +kernel
theorem dX9_ones_3 : decode cX9_ones 3 = .ok (.istore_n 2, 1) := by decide +kernel
theorem dX9_ones_4 : decode cX9_ones 4 = .ok (.iload_n 2, 1) := by decide +kernel
theorem dX9_ones_5 : decode cX9_ones 5 = .ok (.ifCond .eq 15, 3) := by decide +kernel
theorem dX9_ones_8 : decode cX9_ones 8 = .ok (.iinc 1 1, 3) := by decide +kernel
theorem dX9_ones_11 : decode cX9_ones 11 = .ok (.iload_n 2, 1) := by decide +kernel
theorem dX9_ones_12 : decode cX9_ones 12 = .ok (.iload_n 2, 1) := by decide +kernel
theorem dX9_ones_13 : decode cX9_ones 13 = .ok (.iconst 1, 1) := by decide +kernel
theorem dX9_ones_14 : decode cX9_ones 14 = .ok (.isub, 1) := by decide +kernel
theorem dX9_ones_15 : decode cX9_ones 15 = .ok (.iand, 1) := by decide +kernel
theorem dX9_ones_16 : decode cX9_ones 16 = .ok (.istore_n 2, 1) := by decide +kernel
theorem dX9_ones_17 : decode cX9_ones 17 = .ok (.goto (-13), 3) := by decide +kernel
theorem dX9_ones_20 : decode cX9_ones 20 = .ok (.iload_n 1, 1) := by decide +kernel
theorem dX9_ones_21 : decode cX9_ones 21 = .ok (.ireturn, 1) := by decide +kernel
theorem dX9_word_0 : decode cX9_word 0 = .ok (.aload_n 0, 1) := by decide +kernel
theorem dX9_word_1 : decode cX9_word 1 = .ok (.iload_n 1, 1) := by decide +kernel
theorem dX9_word_2 : decode cX9_word 2 = .ok (.invokevirtual 36, 3) := by decide +kernel
theorem dX9_word_5 : decode cX9_word 5 = .ok (.ifCond .eq 13, 3) := by decide +kernel
theorem dX9_word_8 : decode cX9_word 8 = .ok (.iload_n 2, 1) := by decide +kernel
theorem dX9_word_9 : decode cX9_word 9 = .ok (.iconst 1, 1) := by decide +kernel
theorem dX9_word_10 : decode cX9_word 10 = .ok (.bipush 99, 2) := by decide +kernel
theorem dX9_word_12 : decode cX9_word 12 = .ok (.invokestatic 40, 3) := by decide +kernel
theorem dX9_word_15 : decode cX9_word 15 = .ok (.ifCond .ne 5, 3) := by decide +kernel
theorem dX9_word_18 : decode cX9_word 18 = .ok (.iconst (-1), 1) := by decide +kernel
theorem dX9_word_19 : decode cX9_word 19 = .ok (.ireturn, 1) := by decide +kernel
theorem dX9_word_20 : decode cX9_word 20 = .ok (.aload_n 0, 1) := by decide +kernel
theorem dX9_word_21 : decode cX9_word 21 = .ok (.invokevirtual 44, 3) := by decide +kernel
theorem dX9_word_24 : decode cX9_word 24 = .ok (.ifCond .eq 6, 3) := by decide +kernel
theorem dX9_word_27 : decode cX9_word 27 = .ok (.bipush (-2), 2) := by decide +kernel
theorem dX9_word_29 : decode cX9_word 29 = .ok (.ireturn, 1) := by decide +kernel
theorem dX9_word_30 : decode cX9_word 30 = .ok (.aload_n 0, 1) := by decide +kernel
theorem dX9_word_31 : decode cX9_word 31 = .ok (.invokevirtual 48, 3) := by decide +kernel
theorem dX9_word_34 : decode cX9_word 34 = .ok (.aload_n 0, 1) := by decide +kernel
theorem dX9_word_35 : decode cX9_word 35 = .ok (.iload_n 1, 1) := by decide +kernel
theorem dX9_word_36 : decode cX9_word 36 = .ok (.iconst 1, 1) := by decide +kernel
theorem dX9_word_37 : decode cX9_word 37 = .ok (.invokevirtual 29, 3) := by decide +kernel
theorem dX9_word_40 : decode cX9_word 40 = .ok (.istore_n 3, 1) := by decide +kernel
theorem dX9_word_41 : decode cX9_word 41 = .ok (.aload_n 0, 1) := by decide +kernel
theorem dX9_word_42 : decode cX9_word 42 = .ok (.getfield 7, 3) := by decide +kernel
theorem dX9_word_45 : decode cX9_word 45 = .ok (.bipush 16, 2) := by decide +kernel
theorem dX9_word_47 : decode cX9_word 47 = .ok (.bipush 11, 2) := by decide +kernel
theorem dX9_word_49 : decode cX9_word 49 = .ok (.iload_n 1, 1) := by decide +kernel
theorem dX9_word_50 : decode cX9_word 50 = .ok (.imul, 1) := by decide +kernel
theorem dX9_word_51 : decode cX9_word 51 = .ok (.iadd, 1) := by decide +kernel
theorem dX9_word_52 : decode cX9_word 52 = .ok (.iconst 1, 1) := by decide +kernel
theorem dX9_word_53 : decode cX9_word 53 = .ok (.iadd, 1) := by decide +kernel
theorem dX9_word_54 : decode cX9_word 54 = .ok (.iload_n 2, 1) := by decide +kernel
theorem dX9_word_55 : decode cX9_word 55 = .ok (.iastore, 1) := by decide +kernel
theorem dX9_word_56 : decode cX9_word 56 = .ok (.iload_n 3, 1) := by decide +kernel
theorem dX9_word_57 : decode cX9_word 57 = .ok (.ireturn, 1) := by decide +kernel
theorem dX9_seat_0 : decode cX9_seat 0 = .ok (.iload_n 1, 1) := by decide +kernel
theorem dX9_seat_1 : decode cX9_seat 1 = .ok (.iconst 0, 1) := by decide +kernel
theorem dX9_seat_2 : decode cX9_seat 2 = .ok (.sipush 999, 3) := by decide +kernel
theorem dX9_seat_5 : decode cX9_seat 5 = .ok (.invokestatic 40, 3) := by decide +kernel
theorem dX9_seat_8 : decode cX9_seat 8 = .ok (.ifCond .ne 5, 3) := by decide +kernel
theorem dX9_seat_11 : decode cX9_seat 11 = .ok (.iconst (-1), 1) := by decide +kernel
theorem dX9_seat_12 : decode cX9_seat 12 = .ok (.ireturn, 1) := by decide +kernel
theorem dX9_seat_13 : decode cX9_seat 13 = .ok (.aload_n 0, 1) := by decide +kernel
theorem dX9_seat_14 : decode cX9_seat 14 = .ok (.invokevirtual 44, 3) := by decide +kernel
theorem dX9_seat_17 : decode cX9_seat 17 = .ok (.ifCond .eq 6, 3) := by decide +kernel
theorem dX9_seat_20 : decode cX9_seat 20 = .ok (.bipush (-2), 2) := by decide +kernel
theorem dX9_seat_22 : decode cX9_seat 22 = .ok (.ireturn, 1) := by decide +kernel
theorem dX9_seat_23 : decode cX9_seat 23 = .ok (.aload_n 0, 1) := by decide +kernel
theorem dX9_seat_24 : decode cX9_seat 24 = .ok (.getfield 7, 3) := by decide +kernel
theorem dX9_seat_27 : decode cX9_seat 27 = .ok (.iconst 1, 1) := by decide +kernel
theorem dX9_seat_28 : decode cX9_seat 28 = .ok (.iaload, 1) := by decide +kernel
theorem dX9_seat_29 : decode cX9_seat 29 = .ok (.istore_n 2, 1) := by decide +kernel
theorem dX9_seat_30 : decode cX9_seat 30 = .ok (.iload_n 2, 1) := by decide +kernel
theorem dX9_seat_31 : decode cX9_seat 31 = .ok (.iconst 5, 1) := by decide +kernel
theorem dX9_seat_32 : decode cX9_seat 32 = .ok (.if_icmp .ne 6, 3) := by decide +kernel
theorem dX9_seat_35 : decode cX9_seat 35 = .ok (.bipush (-3), 2) := by decide +kernel
theorem dX9_seat_37 : decode cX9_seat 37 = .ok (.ireturn, 1) := by decide +kernel
theorem dX9_seat_38 : decode cX9_seat 38 = .ok (.aload_n 0, 1) := by decide +kernel
theorem dX9_seat_39 : decode cX9_seat 39 = .ok (.invokevirtual 48, 3) := by decide +kernel
theorem dX9_seat_42 : decode cX9_seat 42 = .ok (.aload_n 0, 1) := by decide +kernel
theorem dX9_seat_43 : decode cX9_seat 43 = .ok (.getfield 7, 3) := by decide +kernel
theorem dX9_seat_46 : decode cX9_seat 46 = .ok (.iload_n 2, 1) := by decide +kernel
theorem dX9_seat_47 : decode cX9_seat 47 = .ok (.iconst 0, 1) := by decide +kernel
theorem dX9_seat_48 : decode cX9_seat 48 = .ok (.invokestatic 51, 3) := by decide +kernel
theorem dX9_seat_51 : decode cX9_seat 51 = .ok (.iload_n 1, 1) := by decide +kernel
theorem dX9_seat_52 : decode cX9_seat 52 = .ok (.iastore, 1) := by decide +kernel
theorem dX9_seat_53 : decode cX9_seat 53 = .ok (.aload_n 0, 1) := by decide +kernel
theorem dX9_seat_54 : decode cX9_seat 54 = .ok (.getfield 7, 3) := by decide +kernel
theorem dX9_seat_57 : decode cX9_seat 57 = .ok (.iload_n 2, 1) := by decide +kernel
theorem dX9_seat_58 : decode cX9_seat 58 = .ok (.iconst 4, 1) := by decide +kernel
theorem dX9_seat_59 : decode cX9_seat 59 = .ok (.invokestatic 51, 3) := by decide +kernel
theorem dX9_seat_62 : decode cX9_seat 62 = .ok (.bipush 26, 2) := by decide +kernel
theorem dX9_seat_64 : decode cX9_seat 64 = .ok (.iastore, 1) := by decide +kernel
theorem dX9_seat_65 : decode cX9_seat 65 = .ok (.aload_n 0, 1) := by decide +kernel
theorem dX9_seat_66 : decode cX9_seat 66 = .ok (.getfield 7, 3) := by decide +kernel
theorem dX9_seat_69 : decode cX9_seat 69 = .ok (.iconst 1, 1) := by decide +kernel
theorem dX9_seat_70 : decode cX9_seat 70 = .ok (.dup2, 1) := by decide +kernel
theorem dX9_seat_71 : decode cX9_seat 71 = .ok (.iaload, 1) := by decide +kernel
theorem dX9_seat_72 : decode cX9_seat 72 = .ok (.iconst 1, 1) := by decide +kernel
theorem dX9_seat_73 : decode cX9_seat 73 = .ok (.iadd, 1) := by decide +kernel
theorem dX9_seat_74 : decode cX9_seat 74 = .ok (.iastore, 1) := by decide +kernel
theorem dX9_seat_75 : decode cX9_seat 75 = .ok (.iload_n 2, 1) := by decide +kernel
theorem dX9_seat_76 : decode cX9_seat 76 = .ok (.ireturn, 1) := by decide +kernel
theorem dX9_lend_0 : decode cX9_lend 0 = .ok (.aload_n 0, 1) := by decide +kernel
theorem dX9_lend_1 : decode cX9_lend 1 = .ok (.iload_n 1, 1) := by decide +kernel
theorem dX9_lend_2 : decode cX9_lend 2 = .ok (.invokevirtual 54, 3) := by decide +kernel
theorem dX9_lend_5 : decode cX9_lend 5 = .ok (.ifCond .eq 27, 3) := by decide +kernel
theorem dX9_lend_8 : decode cX9_lend 8 = .ok (.aload_n 0, 1) := by decide +kernel
theorem dX9_lend_9 : decode cX9_lend 9 = .ok (.iload_n 2, 1) := by decide +kernel
theorem dX9_lend_10 : decode cX9_lend 10 = .ok (.invokevirtual 54, 3) := by decide +kernel
theorem dX9_lend_13 : decode cX9_lend 13 = .ok (.ifCond .eq 19, 3) := by decide +kernel
theorem dX9_lend_16 : decode cX9_lend 16 = .ok (.iload_n 1, 1) := by decide +kernel
theorem dX9_lend_17 : decode cX9_lend 17 = .ok (.iload_n 2, 1) := by decide +kernel
theorem dX9_lend_18 : decode cX9_lend 18 = .ok (.if_icmp .eq 14, 3) := by decide +kernel
theorem dX9_lend_21 : decode cX9_lend 21 = .ok (.iload_n 3, 1) := by decide +kernel
theorem dX9_lend_22 : decode cX9_lend 22 = .ok (.iconst 1, 1) := by decide +kernel
theorem dX9_lend_23 : decode cX9_lend 23 = .ok (.sipush 999, 3) := by decide +kernel
theorem dX9_lend_26 : decode cX9_lend 26 = .ok (.invokestatic 40, 3) := by decide +kernel
theorem dX9_lend_29 : decode cX9_lend 29 = .ok (.ifCond .ne 5, 3) := by decide +kernel
theorem dX9_lend_32 : decode cX9_lend 32 = .ok (.iconst (-1), 1) := by decide +kernel
theorem dX9_lend_33 : decode cX9_lend 33 = .ok (.ireturn, 1) := by decide +kernel
theorem dX9_lend_34 : decode cX9_lend 34 = .ok (.aload_n 0, 1) := by decide +kernel
theorem dX9_lend_35 : decode cX9_lend 35 = .ok (.getfield 7, 3) := by decide +kernel
theorem dX9_lend_38 : decode cX9_lend 38 = .ok (.iload_n 1, 1) := by decide +kernel
theorem dX9_lend_39 : decode cX9_lend 39 = .ok (.iconst 0, 1) := by decide +kernel
theorem dX9_lend_40 : decode cX9_lend 40 = .ok (.invokestatic 51, 3) := by decide +kernel
theorem dX9_lend_43 : decode cX9_lend 43 = .ok (.iaload, 1) := by decide +kernel
theorem dX9_lend_44 : decode cX9_lend 44 = .ok (.iload_n 3, 1) := by decide +kernel
theorem dX9_lend_45 : decode cX9_lend 45 = .ok (.if_icmp .ge 6, 3) := by decide +kernel
theorem dX9_lend_48 : decode cX9_lend 48 = .ok (.bipush (-2), 2) := by decide +kernel
theorem dX9_lend_50 : decode cX9_lend 50 = .ok (.ireturn, 1) := by decide +kernel
theorem dX9_lend_51 : decode cX9_lend 51 = .ok (.aload_n 0, 1) := by decide +kernel
theorem dX9_lend_52 : decode cX9_lend 52 = .ok (.invokevirtual 48, 3) := by decide +kernel
theorem dX9_lend_55 : decode cX9_lend 55 = .ok (.aload_n 0, 1) := by decide +kernel
theorem dX9_lend_56 : decode cX9_lend 56 = .ok (.getfield 7, 3) := by decide +kernel
theorem dX9_lend_59 : decode cX9_lend 59 = .ok (.iload_n 1, 1) := by decide +kernel
theorem dX9_lend_60 : decode cX9_lend 60 = .ok (.iconst 0, 1) := by decide +kernel
theorem dX9_lend_61 : decode cX9_lend 61 = .ok (.invokestatic 51, 3) := by decide +kernel
theorem dX9_lend_64 : decode cX9_lend 64 = .ok (.dup2, 1) := by decide +kernel
theorem dX9_lend_65 : decode cX9_lend 65 = .ok (.iaload, 1) := by decide +kernel
theorem dX9_lend_66 : decode cX9_lend 66 = .ok (.iload_n 3, 1) := by decide +kernel
theorem dX9_lend_67 : decode cX9_lend 67 = .ok (.isub, 1) := by decide +kernel
theorem dX9_lend_68 : decode cX9_lend 68 = .ok (.iastore, 1) := by decide +kernel
theorem dX9_lend_69 : decode cX9_lend 69 = .ok (.aload_n 0, 1) := by decide +kernel
theorem dX9_lend_70 : decode cX9_lend 70 = .ok (.getfield 7, 3) := by decide +kernel
theorem dX9_lend_73 : decode cX9_lend 73 = .ok (.iload_n 2, 1) := by decide +kernel
theorem dX9_lend_74 : decode cX9_lend 74 = .ok (.iconst 0, 1) := by decide +kernel
theorem dX9_lend_75 : decode cX9_lend 75 = .ok (.invokestatic 51, 3) := by decide +kernel
theorem dX9_lend_78 : decode cX9_lend 78 = .ok (.dup2, 1) := by decide +kernel
theorem dX9_lend_79 : decode cX9_lend 79 = .ok (.iaload, 1) := by decide +kernel
theorem dX9_lend_80 : decode cX9_lend 80 = .ok (.iload_n 3, 1) := by decide +kernel
theorem dX9_lend_81 : decode cX9_lend 81 = .ok (.iadd, 1) := by decide +kernel
theorem dX9_lend_82 : decode cX9_lend 82 = .ok (.iastore, 1) := by decide +kernel
theorem dX9_lend_83 : decode cX9_lend 83 = .ok (.aload_n 0, 1) := by decide +kernel
theorem dX9_lend_84 : decode cX9_lend 84 = .ok (.getfield 7, 3) := by decide +kernel
theorem dX9_lend_87 : decode cX9_lend 87 = .ok (.iload_n 1, 1) := by decide +kernel
theorem dX9_lend_88 : decode cX9_lend 88 = .ok (.iconst 0, 1) := by decide +kernel
theorem dX9_lend_89 : decode cX9_lend 89 = .ok (.invokestatic 51, 3) := by decide +kernel
theorem dX9_lend_92 : decode cX9_lend 92 = .ok (.iaload, 1) := by decide +kernel
theorem dX9_lend_93 : decode cX9_lend 93 = .ok (.ireturn, 1) := by decide +kernel
theorem dX9_set_0 : decode cX9_set 0 = .ok (.iload_n 1, 1) := by decide +kernel
theorem dX9_set_1 : decode cX9_set 1 = .ok (.ifCond .ne 13, 3) := by decide +kernel
theorem dX9_set_4 : decode cX9_set 4 = .ok (.iload_n 2, 1) := by decide +kernel
theorem dX9_set_5 : decode cX9_set 5 = .ok (.iconst 1, 1) := by decide +kernel
theorem dX9_set_6 : decode cX9_set 6 = .ok (.bipush 12, 2) := by decide +kernel
theorem dX9_set_8 : decode cX9_set 8 = .ok (.invokestatic 40, 3) := by decide +kernel
theorem dX9_set_11 : decode cX9_set 11 = .ok (.ifCond .ne 5, 3) := by decide +kernel
theorem dX9_set_14 : decode cX9_set 14 = .ok (.iconst (-1), 1) := by decide +kernel
theorem dX9_set_15 : decode cX9_set 15 = .ok (.ireturn, 1) := by decide +kernel
theorem dX9_set_16 : decode cX9_set 16 = .ok (.aload_n 0, 1) := by decide +kernel
theorem dX9_set_17 : decode cX9_set 17 = .ok (.invokevirtual 44, 3) := by decide +kernel
theorem dX9_set_20 : decode cX9_set 20 = .ok (.ifCond .eq 6, 3) := by decide +kernel
theorem dX9_set_23 : decode cX9_set 23 = .ok (.bipush (-2), 2) := by decide +kernel
theorem dX9_set_25 : decode cX9_set 25 = .ok (.ireturn, 1) := by decide +kernel
theorem dX9_set_26 : decode cX9_set 26 = .ok (.aload_n 0, 1) := by decide +kernel
theorem dX9_set_27 : decode cX9_set 27 = .ok (.invokevirtual 48, 3) := by decide +kernel
theorem dX9_set_30 : decode cX9_set 30 = .ok (.aload_n 0, 1) := by decide +kernel
theorem dX9_set_31 : decode cX9_set 31 = .ok (.getfield 7, 3) := by decide +kernel
theorem dX9_set_34 : decode cX9_set 34 = .ok (.bipush 11, 2) := by decide +kernel
theorem dX9_set_36 : decode cX9_set 36 = .ok (.iaload, 1) := by decide +kernel
theorem dX9_set_37 : decode cX9_set 37 = .ok (.istore_n 3, 1) := by decide +kernel
theorem dX9_set_38 : decode cX9_set 38 = .ok (.aload_n 0, 1) := by decide +kernel
theorem dX9_set_39 : decode cX9_set 39 = .ok (.getfield 7, 3) := by decide +kernel
theorem dX9_set_42 : decode cX9_set 42 = .ok (.bipush 11, 2) := by decide +kernel
theorem dX9_set_44 : decode cX9_set 44 = .ok (.iload_n 2, 1) := by decide +kernel
theorem dX9_set_45 : decode cX9_set 45 = .ok (.iastore, 1) := by decide +kernel
theorem dX9_set_46 : decode cX9_set 46 = .ok (.iload_n 3, 1) := by decide +kernel
theorem dX9_set_47 : decode cX9_set 47 = .ok (.ireturn, 1) := by decide +kernel
theorem dX9_seed_0 : decode cX9_seed 0 = .ok (.iload_n 1, 1) := by decide +kernel
theorem dX9_seed_1 : decode cX9_seed 1 = .ok (.ifCond .ge 5, 3) := by decide +kernel
theorem dX9_seed_4 : decode cX9_seed 4 = .ok (.iconst (-1), 1) := by decide +kernel
theorem dX9_seed_5 : decode cX9_seed 5 = .ok (.ireturn, 1) := by decide +kernel
theorem dX9_seed_6 : decode cX9_seed 6 = .ok (.aload_n 0, 1) := by decide +kernel
theorem dX9_seed_7 : decode cX9_seed 7 = .ok (.invokevirtual 48, 3) := by decide +kernel
theorem dX9_seed_10 : decode cX9_seed 10 = .ok (.aload_n 0, 1) := by decide +kernel
theorem dX9_seed_11 : decode cX9_seed 11 = .ok (.getfield 7, 3) := by decide +kernel
theorem dX9_seed_14 : decode cX9_seed 14 = .ok (.bipush 10, 2) := by decide +kernel
theorem dX9_seed_16 : decode cX9_seed 16 = .ok (.iaload, 1) := by decide +kernel
theorem dX9_seed_17 : decode cX9_seed 17 = .ok (.istore_n 2, 1) := by decide +kernel
theorem dX9_seed_18 : decode cX9_seed 18 = .ok (.aload_n 0, 1) := by decide +kernel
theorem dX9_seed_19 : decode cX9_seed 19 = .ok (.getfield 7, 3) := by decide +kernel
theorem dX9_seed_22 : decode cX9_seed 22 = .ok (.bipush 10, 2) := by decide +kernel
theorem dX9_seed_24 : decode cX9_seed 24 = .ok (.iload_n 1, 1) := by decide +kernel
theorem dX9_seed_25 : decode cX9_seed 25 = .ok (.iastore, 1) := by decide +kernel
theorem dX9_seed_26 : decode cX9_seed 26 = .ok (.iload_n 2, 1) := by decide +kernel
theorem dX9_seed_27 : decode cX9_seed 27 = .ok (.ireturn, 1) := by decide +kernel
theorem dX9_weights_0 : decode cX9_weights 0 = .ok (.iconst 0, 1) := by decide +kernel
theorem dX9_weights_1 : decode cX9_weights 1 = .ok (.istore_n 1, 1) := by decide +kernel
theorem dX9_weights_2 : decode cX9_weights 2 = .ok (.iconst 0, 1) := by decide +kernel
theorem dX9_weights_3 : decode cX9_weights 3 = .ok (.istore_n 2, 1) := by decide +kernel
theorem dX9_weights_4 : decode cX9_weights 4 = .ok (.iload_n 2, 1) := by decide +kernel
theorem dX9_weights_5 : decode cX9_weights 5 = .ok (.aload_n 0, 1) := by decide +kernel
theorem dX9_weights_6 : decode cX9_weights 6 = .ok (.getfield 7, 3) := by decide +kernel
theorem dX9_weights_9 : decode cX9_weights 9 = .ok (.iconst 0, 1) := by decide +kernel
theorem dX9_weights_10 : decode cX9_weights 10 = .ok (.iaload, 1) := by decide +kernel
theorem dX9_weights_11 : decode cX9_weights 11 = .ok (.if_icmp .ge 18, 3) := by decide +kernel
theorem dX9_weights_14 : decode cX9_weights 14 = .ok (.iload_n 1, 1) := by decide +kernel
theorem dX9_weights_15 : decode cX9_weights 15 = .ok (.aload_n 0, 1) := by decide +kernel
theorem dX9_weights_16 : decode cX9_weights 16 = .ok (.iload_n 2, 1) := by decide +kernel
theorem dX9_weights_17 : decode cX9_weights 17 = .ok (.iconst 1, 1) := by decide +kernel
theorem dX9_weights_18 : decode cX9_weights 18 = .ok (.invokevirtual 29, 3) := by decide +kernel
theorem dX9_weights_21 : decode cX9_weights 21 = .ok (.iadd, 1) := by decide +kernel
theorem dX9_weights_22 : decode cX9_weights 22 = .ok (.istore_n 1, 1) := by decide +kernel
theorem dX9_weights_23 : decode cX9_weights 23 = .ok (.iinc 2 1, 3) := by decide +kernel
theorem dX9_weights_26 : decode cX9_weights 26 = .ok (.goto (-22), 3) := by decide +kernel
theorem dX9_weights_29 : decode cX9_weights 29 = .ok (.iload_n 1, 1) := by decide +kernel
theorem dX9_weights_30 : decode cX9_weights 30 = .ok (.ireturn, 1) := by decide +kernel
theorem dX9_drawn_0 : decode cX9_drawn 0 = .ok (.aload_n 0, 1) := by decide +kernel
theorem dX9_drawn_1 : decode cX9_drawn 1 = .ok (.getfield 7, 3) := by decide +kernel
theorem dX9_drawn_4 : decode cX9_drawn 4 = .ok (.bipush 10, 2) := by decide +kernel
theorem dX9_drawn_6 : decode cX9_drawn 6 = .ok (.iaload, 1) := by decide +kernel
theorem dX9_drawn_7 : decode cX9_drawn 7 = .ok (.i2l, 1) := by decide +kernel
theorem dX9_drawn_8 : decode cX9_drawn 8 = .ok (.ldc2_w 57, 3) := by decide +kernel
theorem dX9_drawn_11 : decode cX9_drawn 11 = .ok (.lmul, 1) := by decide +kernel
theorem dX9_drawn_12 : decode cX9_drawn 12 = .ok (.ldc2_w 59, 3) := by decide +kernel
theorem dX9_drawn_15 : decode cX9_drawn 15 = .ok (.ladd, 1) := by decide +kernel
theorem dX9_drawn_16 : decode cX9_drawn 16 = .ok (.ldc2_w 61, 3) := by decide +kernel
theorem dX9_drawn_19 : decode cX9_drawn 19 = .ok (.lrem, 1) := by decide +kernel
theorem dX9_drawn_20 : decode cX9_drawn 20 = .ok (.l2i, 1) := by decide +kernel
theorem dX9_drawn_21 : decode cX9_drawn 21 = .ok (.ireturn, 1) := by decide +kernel
theorem dX9_wordBy_0 : decode cX9_wordBy 0 = .ok (.iload_n 1, 1) := by decide +kernel
theorem dX9_wordBy_1 : decode cX9_wordBy 1 = .ok (.ldc 63, 2) := by decide +kernel
theorem dX9_wordBy_3 : decode cX9_wordBy 3 = .ok (.idiv, 1) := by decide +kernel
theorem dX9_wordBy_4 : decode cX9_wordBy 4 = .ok (.aload_n 0, 1) := by decide +kernel
theorem dX9_wordBy_5 : decode cX9_wordBy 5 = .ok (.invokevirtual 64, 3) := by decide +kernel
theorem dX9_wordBy_8 : decode cX9_wordBy 8 = .ok (.irem, 1) := by decide +kernel
theorem dX9_wordBy_9 : decode cX9_wordBy 9 = .ok (.istore_n 2, 1) := by decide +kernel
theorem dX9_wordBy_10 : decode cX9_wordBy 10 = .ok (.iconst 0, 1) := by decide +kernel
theorem dX9_wordBy_11 : decode cX9_wordBy 11 = .ok (.istore_n 3, 1) := by decide +kernel
theorem dX9_wordBy_12 : decode cX9_wordBy 12 = .ok (.iload_n 2, 1) := by decide +kernel
theorem dX9_wordBy_13 : decode cX9_wordBy 13 = .ok (.aload_n 0, 1) := by decide +kernel
theorem dX9_wordBy_14 : decode cX9_wordBy 14 = .ok (.iload_n 3, 1) := by decide +kernel
theorem dX9_wordBy_15 : decode cX9_wordBy 15 = .ok (.iconst 1, 1) := by decide +kernel
theorem dX9_wordBy_16 : decode cX9_wordBy 16 = .ok (.invokevirtual 29, 3) := by decide +kernel
theorem dX9_wordBy_19 : decode cX9_wordBy 19 = .ok (.if_icmp .lt 18, 3) := by decide +kernel
theorem dX9_wordBy_22 : decode cX9_wordBy 22 = .ok (.iload_n 2, 1) := by decide +kernel
theorem dX9_wordBy_23 : decode cX9_wordBy 23 = .ok (.aload_n 0, 1) := by decide +kernel
theorem dX9_wordBy_24 : decode cX9_wordBy 24 = .ok (.iload_n 3, 1) := by decide +kernel
theorem dX9_wordBy_25 : decode cX9_wordBy 25 = .ok (.iconst 1, 1) := by decide +kernel
theorem dX9_wordBy_26 : decode cX9_wordBy 26 = .ok (.invokevirtual 29, 3) := by decide +kernel
theorem dX9_wordBy_29 : decode cX9_wordBy 29 = .ok (.isub, 1) := by decide +kernel
theorem dX9_wordBy_30 : decode cX9_wordBy 30 = .ok (.istore_n 2, 1) := by decide +kernel
theorem dX9_wordBy_31 : decode cX9_wordBy 31 = .ok (.iinc 3 1, 3) := by decide +kernel
theorem dX9_wordBy_34 : decode cX9_wordBy 34 = .ok (.goto (-22), 3) := by decide +kernel
theorem dX9_wordBy_37 : decode cX9_wordBy 37 = .ok (.iload_n 3, 1) := by decide +kernel
theorem dX9_wordBy_38 : decode cX9_wordBy 38 = .ok (.ireturn, 1) := by decide +kernel
theorem dX9_canPay_0 : decode cX9_canPay 0 = .ok (.iconst 1, 1) := by decide +kernel
theorem dX9_canPay_1 : decode cX9_canPay 1 = .ok (.istore_n 2, 1) := by decide +kernel
theorem dX9_canPay_2 : decode cX9_canPay 2 = .ok (.iconst 0, 1) := by decide +kernel
theorem dX9_canPay_3 : decode cX9_canPay 3 = .ok (.istore_n 3, 1) := by decide +kernel
theorem dX9_canPay_4 : decode cX9_canPay 4 = .ok (.iload_n 3, 1) := by decide +kernel
theorem dX9_canPay_5 : decode cX9_canPay 5 = .ok (.aload_n 0, 1) := by decide +kernel
theorem dX9_canPay_6 : decode cX9_canPay 6 = .ok (.getfield 7, 3) := by decide +kernel
theorem dX9_canPay_9 : decode cX9_canPay 9 = .ok (.iconst 1, 1) := by decide +kernel
theorem dX9_canPay_10 : decode cX9_canPay 10 = .ok (.iaload, 1) := by decide +kernel
theorem dX9_canPay_11 : decode cX9_canPay 11 = .ok (.if_icmp .ge 33, 3) := by decide +kernel
theorem dX9_canPay_14 : decode cX9_canPay 14 = .ok (.iload_n 2, 1) := by decide +kernel
theorem dX9_canPay_15 : decode cX9_canPay 15 = .ok (.ifCond .eq 21, 3) := by decide +kernel
theorem dX9_canPay_18 : decode cX9_canPay 18 = .ok (.aload_n 0, 1) := by decide +kernel
theorem dX9_canPay_19 : decode cX9_canPay 19 = .ok (.getfield 7, 3) := by decide +kernel
theorem dX9_canPay_22 : decode cX9_canPay 22 = .ok (.iload_n 3, 1) := by decide +kernel
theorem dX9_canPay_23 : decode cX9_canPay 23 = .ok (.iconst 0, 1) := by decide +kernel
theorem dX9_canPay_24 : decode cX9_canPay 24 = .ok (.invokestatic 51, 3) := by decide +kernel
theorem dX9_canPay_27 : decode cX9_canPay 27 = .ok (.iaload, 1) := by decide +kernel
theorem dX9_canPay_28 : decode cX9_canPay 28 = .ok (.iload_n 1, 1) := by decide +kernel
theorem dX9_canPay_29 : decode cX9_canPay 29 = .ok (.if_icmp .lt 7, 3) := by decide +kernel
theorem dX9_canPay_32 : decode cX9_canPay 32 = .ok (.iconst 1, 1) := by decide +kernel
theorem dX9_canPay_33 : decode cX9_canPay 33 = .ok (.goto 4, 3) := by decide +kernel
theorem dX9_canPay_36 : decode cX9_canPay 36 = .ok (.iconst 0, 1) := by decide +kernel
theorem dX9_canPay_37 : decode cX9_canPay 37 = .ok (.istore_n 2, 1) := by decide +kernel
theorem dX9_canPay_38 : decode cX9_canPay 38 = .ok (.iinc 3 1, 3) := by decide +kernel
theorem dX9_canPay_41 : decode cX9_canPay 41 = .ok (.goto (-37), 3) := by decide +kernel
theorem dX9_canPay_44 : decode cX9_canPay 44 = .ok (.iload_n 2, 1) := by decide +kernel
theorem dX9_canPay_45 : decode cX9_canPay 45 = .ok (.ireturn, 1) := by decide +kernel
theorem dX9_begin_0 : decode cX9_begin 0 = .ok (.iload_n 1, 1) := by decide +kernel
theorem dX9_begin_1 : decode cX9_begin 1 = .ok (.iconst 1, 1) := by decide +kernel
theorem dX9_begin_2 : decode cX9_begin 2 = .ok (.bipush 50, 2) := by decide +kernel
theorem dX9_begin_4 : decode cX9_begin 4 = .ok (.invokestatic 40, 3) := by decide +kernel
theorem dX9_begin_7 : decode cX9_begin 7 = .ok (.ifCond .ne 5, 3) := by decide +kernel
theorem dX9_begin_10 : decode cX9_begin 10 = .ok (.iconst (-1), 1) := by decide +kernel
theorem dX9_begin_11 : decode cX9_begin 11 = .ok (.ireturn, 1) := by decide +kernel
theorem dX9_begin_12 : decode cX9_begin 12 = .ok (.aload_n 0, 1) := by decide +kernel
theorem dX9_begin_13 : decode cX9_begin 13 = .ok (.invokevirtual 44, 3) := by decide +kernel
theorem dX9_begin_16 : decode cX9_begin 16 = .ok (.ifCond .ne 29, 3) := by decide +kernel
theorem dX9_begin_19 : decode cX9_begin 19 = .ok (.aload_n 0, 1) := by decide +kernel
theorem dX9_begin_20 : decode cX9_begin 20 = .ok (.getfield 7, 3) := by decide +kernel
theorem dX9_begin_23 : decode cX9_begin 23 = .ok (.iconst 0, 1) := by decide +kernel
theorem dX9_begin_24 : decode cX9_begin 24 = .ok (.iaload, 1) := by decide +kernel
theorem dX9_begin_25 : decode cX9_begin 25 = .ok (.ifCond .eq 20, 3) := by decide +kernel
theorem dX9_begin_28 : decode cX9_begin 28 = .ok (.aload_n 0, 1) := by decide +kernel
theorem dX9_begin_29 : decode cX9_begin 29 = .ok (.getfield 7, 3) := by decide +kernel
theorem dX9_begin_32 : decode cX9_begin 32 = .ok (.iconst 1, 1) := by decide +kernel
theorem dX9_begin_33 : decode cX9_begin 33 = .ok (.iaload, 1) := by decide +kernel
theorem dX9_begin_34 : decode cX9_begin 34 = .ok (.ifCond .eq 11, 3) := by decide +kernel
theorem dX9_begin_37 : decode cX9_begin 37 = .ok (.aload_n 0, 1) := by decide +kernel
theorem dX9_begin_38 : decode cX9_begin 38 = .ok (.iload_n 1, 1) := by decide +kernel
theorem dX9_begin_39 : decode cX9_begin 39 = .ok (.invokevirtual 68, 3) := by decide +kernel
theorem dX9_begin_42 : decode cX9_begin 42 = .ok (.ifCond .ne 6, 3) := by decide +kernel
theorem dX9_begin_45 : decode cX9_begin 45 = .ok (.bipush (-2), 2) := by decide +kernel
theorem dX9_begin_47 : decode cX9_begin 47 = .ok (.ireturn, 1) := by decide +kernel
theorem dX9_begin_48 : decode cX9_begin 48 = .ok (.aload_n 0, 1) := by decide +kernel
theorem dX9_begin_49 : decode cX9_begin 49 = .ok (.invokevirtual 48, 3) := by decide +kernel
theorem dX9_begin_52 : decode cX9_begin 52 = .ok (.aload_n 0, 1) := by decide +kernel
theorem dX9_begin_53 : decode cX9_begin 53 = .ok (.getfield 7, 3) := by decide +kernel
theorem dX9_begin_56 : decode cX9_begin 56 = .ok (.bipush 10, 2) := by decide +kernel
theorem dX9_begin_58 : decode cX9_begin 58 = .ok (.aload_n 0, 1) := by decide +kernel
theorem dX9_begin_59 : decode cX9_begin 59 = .ok (.invokevirtual 71, 3) := by decide +kernel
theorem dX9_begin_62 : decode cX9_begin 62 = .ok (.iastore, 1) := by decide +kernel
theorem dX9_begin_63 : decode cX9_begin 63 = .ok (.aload_n 0, 1) := by decide +kernel
theorem dX9_begin_64 : decode cX9_begin 64 = .ok (.getfield 7, 3) := by decide +kernel
theorem dX9_begin_67 : decode cX9_begin 67 = .ok (.bipush 13, 2) := by decide +kernel
theorem dX9_begin_69 : decode cX9_begin 69 = .ok (.aload_n 0, 1) := by decide +kernel
theorem dX9_begin_70 : decode cX9_begin 70 = .ok (.aload_n 0, 1) := by decide +kernel
theorem dX9_begin_71 : decode cX9_begin 71 = .ok (.getfield 7, 3) := by decide +kernel
theorem dX9_begin_74 : decode cX9_begin 74 = .ok (.bipush 10, 2) := by decide +kernel
theorem dX9_begin_76 : decode cX9_begin 76 = .ok (.iaload, 1) := by decide +kernel
theorem dX9_begin_77 : decode cX9_begin 77 = .ok (.invokevirtual 74, 3) := by decide +kernel
theorem dX9_begin_80 : decode cX9_begin 80 = .ok (.iastore, 1) := by decide +kernel
theorem dX9_begin_81 : decode cX9_begin 81 = .ok (.aload_n 0, 1) := by decide +kernel
theorem dX9_begin_82 : decode cX9_begin 82 = .ok (.getfield 7, 3) := by decide +kernel
theorem dX9_begin_85 : decode cX9_begin 85 = .ok (.bipush 16, 2) := by decide +kernel
theorem dX9_begin_87 : decode cX9_begin 87 = .ok (.bipush 11, 2) := by decide +kernel
theorem dX9_begin_89 : decode cX9_begin 89 = .ok (.aload_n 0, 1) := by decide +kernel
theorem dX9_begin_90 : decode cX9_begin 90 = .ok (.getfield 7, 3) := by decide +kernel
theorem dX9_begin_93 : decode cX9_begin 93 = .ok (.bipush 13, 2) := by decide +kernel
theorem dX9_begin_95 : decode cX9_begin 95 = .ok (.iaload, 1) := by decide +kernel
theorem dX9_begin_96 : decode cX9_begin 96 = .ok (.imul, 1) := by decide +kernel
theorem dX9_begin_97 : decode cX9_begin 97 = .ok (.iadd, 1) := by decide +kernel
theorem dX9_begin_98 : decode cX9_begin 98 = .ok (.iconst 2, 1) := by decide +kernel
theorem dX9_begin_99 : decode cX9_begin 99 = .ok (.iadd, 1) := by decide +kernel
theorem dX9_begin_100 : decode cX9_begin 100 = .ok (.dup2, 1) := by decide +kernel
theorem dX9_begin_101 : decode cX9_begin 101 = .ok (.iaload, 1) := by decide +kernel
theorem dX9_begin_102 : decode cX9_begin 102 = .ok (.iconst 1, 1) := by decide +kernel
theorem dX9_begin_103 : decode cX9_begin 103 = .ok (.iadd, 1) := by decide +kernel
theorem dX9_begin_104 : decode cX9_begin 104 = .ok (.iastore, 1) := by decide +kernel
theorem dX9_begin_105 : decode cX9_begin 105 = .ok (.aload_n 0, 1) := by decide +kernel
theorem dX9_begin_106 : decode cX9_begin 106 = .ok (.getfield 7, 3) := by decide +kernel
theorem dX9_begin_109 : decode cX9_begin 109 = .ok (.bipush 12, 2) := by decide +kernel
theorem dX9_begin_111 : decode cX9_begin 111 = .ok (.aload_n 0, 1) := by decide +kernel
theorem dX9_begin_112 : decode cX9_begin 112 = .ok (.getfield 7, 3) := by decide +kernel
theorem dX9_begin_115 : decode cX9_begin 115 = .ok (.bipush 12, 2) := by decide +kernel
theorem dX9_begin_117 : decode cX9_begin 117 = .ok (.iaload, 1) := by decide +kernel
theorem dX9_begin_118 : decode cX9_begin 118 = .ok (.iconst 1, 1) := by decide +kernel
theorem dX9_begin_119 : decode cX9_begin 119 = .ok (.iadd, 1) := by decide +kernel
theorem dX9_begin_120 : decode cX9_begin 120 = .ok (.aload_n 0, 1) := by decide +kernel
theorem dX9_begin_121 : decode cX9_begin 121 = .ok (.getfield 7, 3) := by decide +kernel
theorem dX9_begin_124 : decode cX9_begin 124 = .ok (.iconst 1, 1) := by decide +kernel
theorem dX9_begin_125 : decode cX9_begin 125 = .ok (.iaload, 1) := by decide +kernel
theorem dX9_begin_126 : decode cX9_begin 126 = .ok (.irem, 1) := by decide +kernel
theorem dX9_begin_127 : decode cX9_begin 127 = .ok (.iastore, 1) := by decide +kernel
theorem dX9_begin_128 : decode cX9_begin 128 = .ok (.aload_n 0, 1) := by decide +kernel
theorem dX9_begin_129 : decode cX9_begin 129 = .ok (.getfield 7, 3) := by decide +kernel
theorem dX9_begin_132 : decode cX9_begin 132 = .ok (.iconst 3, 1) := by decide +kernel
theorem dX9_begin_133 : decode cX9_begin 133 = .ok (.aload_n 0, 1) := by decide +kernel
theorem dX9_begin_134 : decode cX9_begin 134 = .ok (.getfield 7, 3) := by decide +kernel
theorem dX9_begin_137 : decode cX9_begin 137 = .ok (.bipush 12, 2) := by decide +kernel
theorem dX9_begin_139 : decode cX9_begin 139 = .ok (.iaload, 1) := by decide +kernel
theorem dX9_begin_140 : decode cX9_begin 140 = .ok (.iastore, 1) := by decide +kernel
theorem dX9_begin_141 : decode cX9_begin 141 = .ok (.aload_n 0, 1) := by decide +kernel
theorem dX9_begin_142 : decode cX9_begin 142 = .ok (.getfield 7, 3) := by decide +kernel
theorem dX9_begin_145 : decode cX9_begin 145 = .ok (.iconst 4, 1) := by decide +kernel
theorem dX9_begin_146 : decode cX9_begin 146 = .ok (.iload_n 1, 1) := by decide +kernel
theorem dX9_begin_147 : decode cX9_begin 147 = .ok (.aload_n 0, 1) := by decide +kernel
theorem dX9_begin_148 : decode cX9_begin 148 = .ok (.getfield 7, 3) := by decide +kernel
theorem dX9_begin_151 : decode cX9_begin 151 = .ok (.iconst 1, 1) := by decide +kernel
theorem dX9_begin_152 : decode cX9_begin 152 = .ok (.iaload, 1) := by decide +kernel
theorem dX9_begin_153 : decode cX9_begin 153 = .ok (.imul, 1) := by decide +kernel
theorem dX9_begin_154 : decode cX9_begin 154 = .ok (.iastore, 1) := by decide +kernel
theorem dX9_begin_155 : decode cX9_begin 155 = .ok (.aload_n 0, 1) := by decide +kernel
theorem dX9_begin_156 : decode cX9_begin 156 = .ok (.getfield 7, 3) := by decide +kernel
theorem dX9_begin_159 : decode cX9_begin 159 = .ok (.bipush 14, 2) := by decide +kernel
theorem dX9_begin_161 : decode cX9_begin 161 = .ok (.iload_n 1, 1) := by decide +kernel
theorem dX9_begin_162 : decode cX9_begin 162 = .ok (.iastore, 1) := by decide +kernel
theorem dX9_begin_163 : decode cX9_begin 163 = .ok (.aload_n 0, 1) := by decide +kernel
theorem dX9_begin_164 : decode cX9_begin 164 = .ok (.getfield 7, 3) := by decide +kernel
theorem dX9_begin_167 : decode cX9_begin 167 = .ok (.iconst 5, 1) := by decide +kernel
theorem dX9_begin_168 : decode cX9_begin 168 = .ok (.iconst 0, 1) := by decide +kernel
theorem dX9_begin_169 : decode cX9_begin 169 = .ok (.iastore, 1) := by decide +kernel
theorem dX9_begin_170 : decode cX9_begin 170 = .ok (.aload_n 0, 1) := by decide +kernel
theorem dX9_begin_171 : decode cX9_begin 171 = .ok (.getfield 7, 3) := by decide +kernel
theorem dX9_begin_174 : decode cX9_begin 174 = .ok (.bipush 6, 2) := by decide +kernel
theorem dX9_begin_176 : decode cX9_begin 176 = .ok (.iconst 0, 1) := by decide +kernel
theorem dX9_begin_177 : decode cX9_begin 177 = .ok (.iastore, 1) := by decide +kernel
theorem dX9_begin_178 : decode cX9_begin 178 = .ok (.aload_n 0, 1) := by decide +kernel
theorem dX9_begin_179 : decode cX9_begin 179 = .ok (.getfield 7, 3) := by decide +kernel
theorem dX9_begin_182 : decode cX9_begin 182 = .ok (.bipush 7, 2) := by decide +kernel
theorem dX9_begin_184 : decode cX9_begin 184 = .ok (.iconst 0, 1) := by decide +kernel
theorem dX9_begin_185 : decode cX9_begin 185 = .ok (.iastore, 1) := by decide +kernel
theorem dX9_begin_186 : decode cX9_begin 186 = .ok (.aload_n 0, 1) := by decide +kernel
theorem dX9_begin_187 : decode cX9_begin 187 = .ok (.getfield 7, 3) := by decide +kernel
theorem dX9_begin_190 : decode cX9_begin 190 = .ok (.iconst 2, 1) := by decide +kernel
theorem dX9_begin_191 : decode cX9_begin 191 = .ok (.iconst 1, 1) := by decide +kernel
theorem dX9_begin_192 : decode cX9_begin 192 = .ok (.iastore, 1) := by decide +kernel
theorem dX9_begin_193 : decode cX9_begin 193 = .ok (.aload_n 0, 1) := by decide +kernel
theorem dX9_begin_194 : decode cX9_begin 194 = .ok (.getfield 7, 3) := by decide +kernel
theorem dX9_begin_197 : decode cX9_begin 197 = .ok (.bipush 8, 2) := by decide +kernel
theorem dX9_begin_199 : decode cX9_begin 199 = .ok (.dup2, 1) := by decide +kernel
theorem dX9_begin_200 : decode cX9_begin 200 = .ok (.iaload, 1) := by decide +kernel
theorem dX9_begin_201 : decode cX9_begin 201 = .ok (.iconst 1, 1) := by decide +kernel
theorem dX9_begin_202 : decode cX9_begin 202 = .ok (.iadd, 1) := by decide +kernel
theorem dX9_begin_203 : decode cX9_begin 203 = .ok (.iastore, 1) := by decide +kernel
theorem dX9_begin_204 : decode cX9_begin 204 = .ok (.iconst 0, 1) := by decide +kernel
theorem dX9_begin_205 : decode cX9_begin 205 = .ok (.istore_n 2, 1) := by decide +kernel
theorem dX9_begin_206 : decode cX9_begin 206 = .ok (.iload_n 2, 1) := by decide +kernel
theorem dX9_begin_207 : decode cX9_begin 207 = .ok (.aload_n 0, 1) := by decide +kernel
theorem dX9_begin_208 : decode cX9_begin 208 = .ok (.getfield 7, 3) := by decide +kernel
theorem dX9_begin_211 : decode cX9_begin 211 = .ok (.iconst 1, 1) := by decide +kernel
theorem dX9_begin_212 : decode cX9_begin 212 = .ok (.iaload, 1) := by decide +kernel
theorem dX9_begin_213 : decode cX9_begin 213 = .ok (.if_icmp .ge 35, 3) := by decide +kernel
theorem dX9_begin_216 : decode cX9_begin 216 = .ok (.aload_n 0, 1) := by decide +kernel
theorem dX9_begin_217 : decode cX9_begin 217 = .ok (.getfield 7, 3) := by decide +kernel
theorem dX9_begin_220 : decode cX9_begin 220 = .ok (.iload_n 2, 1) := by decide +kernel
theorem dX9_begin_221 : decode cX9_begin 221 = .ok (.iconst 0, 1) := by decide +kernel
theorem dX9_begin_222 : decode cX9_begin 222 = .ok (.invokestatic 51, 3) := by decide +kernel
theorem dX9_begin_225 : decode cX9_begin 225 = .ok (.dup2, 1) := by decide +kernel
theorem dX9_begin_226 : decode cX9_begin 226 = .ok (.iaload, 1) := by decide +kernel
theorem dX9_begin_227 : decode cX9_begin 227 = .ok (.iload_n 1, 1) := by decide +kernel
theorem dX9_begin_228 : decode cX9_begin 228 = .ok (.isub, 1) := by decide +kernel
theorem dX9_begin_229 : decode cX9_begin 229 = .ok (.iastore, 1) := by decide +kernel
theorem dX9_begin_230 : decode cX9_begin 230 = .ok (.aload_n 0, 1) := by decide +kernel
theorem dX9_begin_231 : decode cX9_begin 231 = .ok (.getfield 7, 3) := by decide +kernel
theorem dX9_begin_234 : decode cX9_begin 234 = .ok (.iload_n 2, 1) := by decide +kernel
theorem dX9_begin_235 : decode cX9_begin 235 = .ok (.iconst 4, 1) := by decide +kernel
theorem dX9_begin_236 : decode cX9_begin 236 = .ok (.invokestatic 51, 3) := by decide +kernel
theorem dX9_begin_239 : decode cX9_begin 239 = .ok (.bipush 26, 2) := by decide +kernel
theorem dX9_begin_241 : decode cX9_begin 241 = .ok (.iastore, 1) := by decide +kernel
theorem dX9_begin_242 : decode cX9_begin 242 = .ok (.iinc 2 1, 3) := by decide +kernel
theorem dX9_begin_245 : decode cX9_begin 245 = .ok (.goto (-39), 3) := by decide +kernel
theorem dX9_begin_248 : decode cX9_begin 248 = .ok (.aload_n 0, 1) := by decide +kernel
theorem dX9_begin_249 : decode cX9_begin 249 = .ok (.aload_n 0, 1) := by decide +kernel
theorem dX9_begin_250 : decode cX9_begin 250 = .ok (.getfield 7, 3) := by decide +kernel
theorem dX9_begin_253 : decode cX9_begin 253 = .ok (.bipush 13, 2) := by decide +kernel
theorem dX9_begin_255 : decode cX9_begin 255 = .ok (.iaload, 1) := by decide +kernel
theorem dX9_begin_256 : decode cX9_begin 256 = .ok (.iconst 0, 1) := by decide +kernel
theorem dX9_begin_257 : decode cX9_begin 257 = .ok (.invokevirtual 29, 3) := by decide +kernel
theorem dX9_begin_260 : decode cX9_begin 260 = .ok (.ireturn, 1) := by decide +kernel
theorem dX9_ends_0 : decode cX9_ends 0 = .ok (.iload_n 1, 1) := by decide +kernel
theorem dX9_ends_1 : decode cX9_ends 1 = .ok (.iconst 5, 1) := by decide +kernel
theorem dX9_ends_2 : decode cX9_ends 2 = .ok (.if_icmp .ne 22, 3) := by decide +kernel
theorem dX9_ends_5 : decode cX9_ends 5 = .ok (.aload_n 0, 1) := by decide +kernel
theorem dX9_ends_6 : decode cX9_ends 6 = .ok (.getfield 7, 3) := by decide +kernel
theorem dX9_ends_9 : decode cX9_ends 9 = .ok (.bipush 9, 2) := by decide +kernel
theorem dX9_ends_11 : decode cX9_ends 11 = .ok (.dup2, 1) := by decide +kernel
theorem dX9_ends_12 : decode cX9_ends 12 = .ok (.iaload, 1) := by decide +kernel
theorem dX9_ends_13 : decode cX9_ends 13 = .ok (.aload_n 0, 1) := by decide +kernel
theorem dX9_ends_14 : decode cX9_ends 14 = .ok (.getfield 7, 3) := by decide +kernel
theorem dX9_ends_17 : decode cX9_ends 17 = .ok (.iconst 4, 1) := by decide +kernel
theorem dX9_ends_18 : decode cX9_ends 18 = .ok (.iaload, 1) := by decide +kernel
theorem dX9_ends_19 : decode cX9_ends 19 = .ok (.iadd, 1) := by decide +kernel
theorem dX9_ends_20 : decode cX9_ends 20 = .ok (.iastore, 1) := by decide +kernel
theorem dX9_ends_21 : decode cX9_ends 21 = .ok (.goto 36, 3) := by decide +kernel
theorem dX9_ends_24 : decode cX9_ends 24 = .ok (.aload_n 0, 1) := by decide +kernel
theorem dX9_ends_25 : decode cX9_ends 25 = .ok (.getfield 7, 3) := by decide +kernel
theorem dX9_ends_28 : decode cX9_ends 28 = .ok (.iload_n 1, 1) := by decide +kernel
theorem dX9_ends_29 : decode cX9_ends 29 = .ok (.iconst 0, 1) := by decide +kernel
theorem dX9_ends_30 : decode cX9_ends 30 = .ok (.invokestatic 51, 3) := by decide +kernel
theorem dX9_ends_33 : decode cX9_ends 33 = .ok (.dup2, 1) := by decide +kernel
theorem dX9_ends_34 : decode cX9_ends 34 = .ok (.iaload, 1) := by decide +kernel
theorem dX9_ends_35 : decode cX9_ends 35 = .ok (.aload_n 0, 1) := by decide +kernel
theorem dX9_ends_36 : decode cX9_ends 36 = .ok (.getfield 7, 3) := by decide +kernel
theorem dX9_ends_39 : decode cX9_ends 39 = .ok (.iconst 4, 1) := by decide +kernel
theorem dX9_ends_40 : decode cX9_ends 40 = .ok (.iaload, 1) := by decide +kernel
theorem dX9_ends_41 : decode cX9_ends 41 = .ok (.iadd, 1) := by decide +kernel
theorem dX9_ends_42 : decode cX9_ends 42 = .ok (.iastore, 1) := by decide +kernel
theorem dX9_ends_43 : decode cX9_ends 43 = .ok (.aload_n 0, 1) := by decide +kernel
theorem dX9_ends_44 : decode cX9_ends 44 = .ok (.getfield 7, 3) := by decide +kernel
theorem dX9_ends_47 : decode cX9_ends 47 = .ok (.iload_n 1, 1) := by decide +kernel
theorem dX9_ends_48 : decode cX9_ends 48 = .ok (.iconst 1, 1) := by decide +kernel
theorem dX9_ends_49 : decode cX9_ends 49 = .ok (.invokestatic 51, 3) := by decide +kernel
theorem dX9_ends_52 : decode cX9_ends 52 = .ok (.dup2, 1) := by decide +kernel
theorem dX9_ends_53 : decode cX9_ends 53 = .ok (.iaload, 1) := by decide +kernel
theorem dX9_ends_54 : decode cX9_ends 54 = .ok (.iconst 1, 1) := by decide +kernel
theorem dX9_ends_55 : decode cX9_ends 55 = .ok (.iadd, 1) := by decide +kernel
theorem dX9_ends_56 : decode cX9_ends 56 = .ok (.iastore, 1) := by decide +kernel
theorem dX9_ends_57 : decode cX9_ends 57 = .ok (.aload_n 0, 1) := by decide +kernel
theorem dX9_ends_58 : decode cX9_ends 58 = .ok (.getfield 7, 3) := by decide +kernel
theorem dX9_ends_61 : decode cX9_ends 61 = .ok (.iconst 2, 1) := by decide +kernel
theorem dX9_ends_62 : decode cX9_ends 62 = .ok (.iconst 0, 1) := by decide +kernel
theorem dX9_ends_63 : decode cX9_ends 63 = .ok (.iastore, 1) := by decide +kernel
theorem dX9_ends_64 : decode cX9_ends 64 = .ok (.iconst 0, 1) := by decide +kernel
theorem dX9_ends_65 : decode cX9_ends 65 = .ok (.istore_n 2, 1) := by decide +kernel
theorem dX9_ends_66 : decode cX9_ends 66 = .ok (.iload_n 2, 1) := by decide +kernel
theorem dX9_ends_67 : decode cX9_ends 67 = .ok (.aload_n 0, 1) := by decide +kernel
theorem dX9_ends_68 : decode cX9_ends 68 = .ok (.getfield 7, 3) := by decide +kernel
theorem dX9_ends_71 : decode cX9_ends 71 = .ok (.iconst 1, 1) := by decide +kernel
theorem dX9_ends_72 : decode cX9_ends 72 = .ok (.iaload, 1) := by decide +kernel
theorem dX9_ends_73 : decode cX9_ends 73 = .ok (.if_icmp .ge 21, 3) := by decide +kernel
theorem dX9_ends_76 : decode cX9_ends 76 = .ok (.aload_n 0, 1) := by decide +kernel
theorem dX9_ends_77 : decode cX9_ends 77 = .ok (.getfield 7, 3) := by decide +kernel
theorem dX9_ends_80 : decode cX9_ends 80 = .ok (.iload_n 2, 1) := by decide +kernel
theorem dX9_ends_81 : decode cX9_ends 81 = .ok (.iconst 4, 1) := by decide +kernel
theorem dX9_ends_82 : decode cX9_ends 82 = .ok (.invokestatic 51, 3) := by decide +kernel
theorem dX9_ends_85 : decode cX9_ends 85 = .ok (.bipush 26, 2) := by decide +kernel
theorem dX9_ends_87 : decode cX9_ends 87 = .ok (.iastore, 1) := by decide +kernel
theorem dX9_ends_88 : decode cX9_ends 88 = .ok (.iinc 2 1, 3) := by decide +kernel
theorem dX9_ends_91 : decode cX9_ends 91 = .ok (.goto (-25), 3) := by decide +kernel
theorem dX9_ends_94 : decode cX9_ends 94 = .ok (.sipush 245, 3) := by decide +kernel
theorem dX9_ends_97 : decode cX9_ends 97 = .ok (.istore_n 2, 1) := by decide +kernel
theorem dX9_ends_98 : decode cX9_ends 98 = .ok (.iload_n 2, 1) := by decide +kernel
theorem dX9_ends_99 : decode cX9_ends 99 = .ok (.sipush 226, 3) := by decide +kernel
theorem dX9_ends_102 : decode cX9_ends 102 = .ok (.if_icmp .lt 23, 3) := by decide +kernel
theorem dX9_ends_105 : decode cX9_ends 105 = .ok (.aload_n 0, 1) := by decide +kernel
theorem dX9_ends_106 : decode cX9_ends 106 = .ok (.getfield 7, 3) := by decide +kernel
theorem dX9_ends_109 : decode cX9_ends 109 = .ok (.iload_n 2, 1) := by decide +kernel
theorem dX9_ends_110 : decode cX9_ends 110 = .ok (.aload_n 0, 1) := by decide +kernel
theorem dX9_ends_111 : decode cX9_ends 111 = .ok (.getfield 7, 3) := by decide +kernel
theorem dX9_ends_114 : decode cX9_ends 114 = .ok (.iload_n 2, 1) := by decide +kernel
theorem dX9_ends_115 : decode cX9_ends 115 = .ok (.iconst 4, 1) := by decide +kernel
theorem dX9_ends_116 : decode cX9_ends 116 = .ok (.isub, 1) := by decide +kernel
theorem dX9_ends_117 : decode cX9_ends 117 = .ok (.iaload, 1) := by decide +kernel
theorem dX9_ends_118 : decode cX9_ends 118 = .ok (.iastore, 1) := by decide +kernel
theorem dX9_ends_119 : decode cX9_ends 119 = .ok (.iinc 2 (-1), 3) := by decide +kernel
theorem dX9_ends_122 : decode cX9_ends 122 = .ok (.goto (-24), 3) := by decide +kernel
theorem dX9_ends_125 : decode cX9_ends 125 = .ok (.aload_n 0, 1) := by decide +kernel
theorem dX9_ends_126 : decode cX9_ends 126 = .ok (.getfield 7, 3) := by decide +kernel
theorem dX9_ends_129 : decode cX9_ends 129 = .ok (.sipush 222, 3) := by decide +kernel
theorem dX9_ends_132 : decode cX9_ends 132 = .ok (.aload_n 0, 1) := by decide +kernel
theorem dX9_ends_133 : decode cX9_ends 133 = .ok (.getfield 7, 3) := by decide +kernel
theorem dX9_ends_136 : decode cX9_ends 136 = .ok (.bipush 13, 2) := by decide +kernel
theorem dX9_ends_138 : decode cX9_ends 138 = .ok (.iaload, 1) := by decide +kernel
theorem dX9_ends_139 : decode cX9_ends 139 = .ok (.iastore, 1) := by decide +kernel
theorem dX9_ends_140 : decode cX9_ends 140 = .ok (.aload_n 0, 1) := by decide +kernel
theorem dX9_ends_141 : decode cX9_ends 141 = .ok (.getfield 7, 3) := by decide +kernel
theorem dX9_ends_144 : decode cX9_ends 144 = .ok (.sipush 223, 3) := by decide +kernel
theorem dX9_ends_147 : decode cX9_ends 147 = .ok (.iload_n 1, 1) := by decide +kernel
theorem dX9_ends_148 : decode cX9_ends 148 = .ok (.iastore, 1) := by decide +kernel
theorem dX9_ends_149 : decode cX9_ends 149 = .ok (.aload_n 0, 1) := by decide +kernel
theorem dX9_ends_150 : decode cX9_ends 150 = .ok (.getfield 7, 3) := by decide +kernel
theorem dX9_ends_153 : decode cX9_ends 153 = .ok (.sipush 224, 3) := by decide +kernel
theorem dX9_ends_156 : decode cX9_ends 156 = .ok (.aload_n 0, 1) := by decide +kernel
theorem dX9_ends_157 : decode cX9_ends 157 = .ok (.getfield 7, 3) := by decide +kernel
theorem dX9_ends_160 : decode cX9_ends 160 = .ok (.iconst 5, 1) := by decide +kernel
theorem dX9_ends_161 : decode cX9_ends 161 = .ok (.iaload, 1) := by decide +kernel
theorem dX9_ends_162 : decode cX9_ends 162 = .ok (.iastore, 1) := by decide +kernel
theorem dX9_ends_163 : decode cX9_ends 163 = .ok (.aload_n 0, 1) := by decide +kernel
theorem dX9_ends_164 : decode cX9_ends 164 = .ok (.getfield 7, 3) := by decide +kernel
theorem dX9_ends_167 : decode cX9_ends 167 = .ok (.sipush 225, 3) := by decide +kernel
theorem dX9_ends_170 : decode cX9_ends 170 = .ok (.aload_n 0, 1) := by decide +kernel
theorem dX9_ends_171 : decode cX9_ends 171 = .ok (.getfield 7, 3) := by decide +kernel
theorem dX9_ends_174 : decode cX9_ends 174 = .ok (.bipush 14, 2) := by decide +kernel
theorem dX9_ends_176 : decode cX9_ends 176 = .ok (.iaload, 1) := by decide +kernel
theorem dX9_ends_177 : decode cX9_ends 177 = .ok (.iastore, 1) := by decide +kernel
theorem dX9_ends_178 : decode cX9_ends 178 = .ok (.aload_n 0, 1) := by decide +kernel
theorem dX9_ends_179 : decode cX9_ends 179 = .ok (.getfield 7, 3) := by decide +kernel
theorem dX9_ends_182 : decode cX9_ends 182 = .ok (.bipush 15, 2) := by decide +kernel
theorem dX9_ends_184 : decode cX9_ends 184 = .ok (.aload_n 0, 1) := by decide +kernel
theorem dX9_ends_185 : decode cX9_ends 185 = .ok (.getfield 7, 3) := by decide +kernel
theorem dX9_ends_188 : decode cX9_ends 188 = .ok (.bipush 15, 2) := by decide +kernel
theorem dX9_ends_190 : decode cX9_ends 190 = .ok (.iaload, 1) := by decide +kernel
theorem dX9_ends_191 : decode cX9_ends 191 = .ok (.bipush 6, 2) := by decide +kernel
theorem dX9_ends_193 : decode cX9_ends 193 = .ok (.if_icmp .ge 15, 3) := by decide +kernel
theorem dX9_ends_196 : decode cX9_ends 196 = .ok (.aload_n 0, 1) := by decide +kernel
theorem dX9_ends_197 : decode cX9_ends 197 = .ok (.getfield 7, 3) := by decide +kernel
theorem dX9_ends_200 : decode cX9_ends 200 = .ok (.bipush 15, 2) := by decide +kernel
theorem dX9_ends_202 : decode cX9_ends 202 = .ok (.iaload, 1) := by decide +kernel
theorem dX9_ends_203 : decode cX9_ends 203 = .ok (.iconst 1, 1) := by decide +kernel
theorem dX9_ends_204 : decode cX9_ends 204 = .ok (.iadd, 1) := by decide +kernel
theorem dX9_ends_205 : decode cX9_ends 205 = .ok (.goto 5, 3) := by decide +kernel
theorem dX9_ends_208 : decode cX9_ends 208 = .ok (.bipush 6, 2) := by decide +kernel
theorem dX9_ends_210 : decode cX9_ends 210 = .ok (.iastore, 1) := by decide +kernel
theorem dX9_ends_211 : decode cX9_ends 211 = .ok (.return_, 1) := by decide +kernel
theorem dX9_misses_0 : decode cX9_misses 0 = .ok (.aload_n 0, 1) := by decide +kernel
theorem dX9_misses_1 : decode cX9_misses 1 = .ok (.getfield 7, 3) := by decide +kernel
theorem dX9_misses_4 : decode cX9_misses 4 = .ok (.iconst 5, 1) := by decide +kernel
theorem dX9_misses_5 : decode cX9_misses 5 = .ok (.dup2, 1) := by decide +kernel
theorem dX9_misses_6 : decode cX9_misses 6 = .ok (.iaload, 1) := by decide +kernel
theorem dX9_misses_7 : decode cX9_misses 7 = .ok (.iconst 1, 1) := by decide +kernel
theorem dX9_misses_8 : decode cX9_misses 8 = .ok (.iadd, 1) := by decide +kernel
theorem dX9_misses_9 : decode cX9_misses 9 = .ok (.iastore, 1) := by decide +kernel
theorem dX9_misses_10 : decode cX9_misses 10 = .ok (.aload_n 0, 1) := by decide +kernel
theorem dX9_misses_11 : decode cX9_misses 11 = .ok (.getfield 7, 3) := by decide +kernel
theorem dX9_misses_14 : decode cX9_misses 14 = .ok (.aload_n 0, 1) := by decide +kernel
theorem dX9_misses_15 : decode cX9_misses 15 = .ok (.getfield 7, 3) := by decide +kernel
theorem dX9_misses_18 : decode cX9_misses 18 = .ok (.iconst 3, 1) := by decide +kernel
theorem dX9_misses_19 : decode cX9_misses 19 = .ok (.iaload, 1) := by decide +kernel
theorem dX9_misses_20 : decode cX9_misses 20 = .ok (.iconst 3, 1) := by decide +kernel
theorem dX9_misses_21 : decode cX9_misses 21 = .ok (.invokestatic 51, 3) := by decide +kernel
theorem dX9_misses_24 : decode cX9_misses 24 = .ok (.dup2, 1) := by decide +kernel
theorem dX9_misses_25 : decode cX9_misses 25 = .ok (.iaload, 1) := by decide +kernel
theorem dX9_misses_26 : decode cX9_misses 26 = .ok (.iconst 1, 1) := by decide +kernel
theorem dX9_misses_27 : decode cX9_misses 27 = .ok (.iadd, 1) := by decide +kernel
theorem dX9_misses_28 : decode cX9_misses 28 = .ok (.iastore, 1) := by decide +kernel
theorem dX9_misses_29 : decode cX9_misses 29 = .ok (.aload_n 0, 1) := by decide +kernel
theorem dX9_misses_30 : decode cX9_misses 30 = .ok (.getfield 7, 3) := by decide +kernel
theorem dX9_misses_33 : decode cX9_misses 33 = .ok (.iconst 3, 1) := by decide +kernel
theorem dX9_misses_34 : decode cX9_misses 34 = .ok (.aload_n 0, 1) := by decide +kernel
theorem dX9_misses_35 : decode cX9_misses 35 = .ok (.getfield 7, 3) := by decide +kernel
theorem dX9_misses_38 : decode cX9_misses 38 = .ok (.iconst 3, 1) := by decide +kernel
theorem dX9_misses_39 : decode cX9_misses 39 = .ok (.iaload, 1) := by decide +kernel
theorem dX9_misses_40 : decode cX9_misses 40 = .ok (.iconst 1, 1) := by decide +kernel
theorem dX9_misses_41 : decode cX9_misses 41 = .ok (.iadd, 1) := by decide +kernel
theorem dX9_misses_42 : decode cX9_misses 42 = .ok (.aload_n 0, 1) := by decide +kernel
theorem dX9_misses_43 : decode cX9_misses 43 = .ok (.getfield 7, 3) := by decide +kernel
theorem dX9_misses_46 : decode cX9_misses 46 = .ok (.iconst 1, 1) := by decide +kernel
theorem dX9_misses_47 : decode cX9_misses 47 = .ok (.iaload, 1) := by decide +kernel
theorem dX9_misses_48 : decode cX9_misses 48 = .ok (.irem, 1) := by decide +kernel
theorem dX9_misses_49 : decode cX9_misses 49 = .ok (.iastore, 1) := by decide +kernel
theorem dX9_misses_50 : decode cX9_misses 50 = .ok (.aload_n 0, 1) := by decide +kernel
theorem dX9_misses_51 : decode cX9_misses 51 = .ok (.getfield 7, 3) := by decide +kernel
theorem dX9_misses_54 : decode cX9_misses 54 = .ok (.iconst 5, 1) := by decide +kernel
theorem dX9_misses_55 : decode cX9_misses 55 = .ok (.iaload, 1) := by decide +kernel
theorem dX9_misses_56 : decode cX9_misses 56 = .ok (.aload_n 0, 1) := by decide +kernel
theorem dX9_misses_57 : decode cX9_misses 57 = .ok (.getfield 7, 3) := by decide +kernel
theorem dX9_misses_60 : decode cX9_misses 60 = .ok (.bipush 11, 2) := by decide +kernel
theorem dX9_misses_62 : decode cX9_misses 62 = .ok (.iaload, 1) := by decide +kernel
theorem dX9_misses_63 : decode cX9_misses 63 = .ok (.if_icmp .ne 8, 3) := by decide +kernel
theorem dX9_misses_66 : decode cX9_misses 66 = .ok (.aload_n 0, 1) := by decide +kernel
theorem dX9_misses_67 : decode cX9_misses 67 = .ok (.iconst 5, 1) := by decide +kernel
theorem dX9_misses_68 : decode cX9_misses 68 = .ok (.invokevirtual 78, 3) := by decide +kernel
theorem dX9_misses_71 : decode cX9_misses 71 = .ok (.return_, 1) := by decide +kernel
theorem dX9_hits_0 : decode cX9_hits 0 = .ok (.aload_n 0, 1) := by decide +kernel
theorem dX9_hits_1 : decode cX9_hits 1 = .ok (.getfield 7, 3) := by decide +kernel
theorem dX9_hits_4 : decode cX9_hits 4 = .ok (.iconst 3, 1) := by decide +kernel
theorem dX9_hits_5 : decode cX9_hits 5 = .ok (.iaload, 1) := by decide +kernel
theorem dX9_hits_6 : decode cX9_hits 6 = .ok (.istore 4, 2) := by decide +kernel
theorem dX9_hits_8 : decode cX9_hits 8 = .ok (.iload_n 1, 1) := by decide +kernel
theorem dX9_hits_9 : decode cX9_hits 9 = .ok (.invokestatic 82, 3) := by decide +kernel
theorem dX9_hits_12 : decode cX9_hits 12 = .ok (.aload_n 0, 1) := by decide +kernel
theorem dX9_hits_13 : decode cX9_hits 13 = .ok (.getfield 7, 3) := by decide +kernel
theorem dX9_hits_16 : decode cX9_hits 16 = .ok (.iconst 4, 1) := by decide +kernel
theorem dX9_hits_17 : decode cX9_hits 17 = .ok (.iaload, 1) := by decide +kernel
theorem dX9_hits_18 : decode cX9_hits 18 = .ok (.if_icmp .ge 10, 3) := by decide +kernel
theorem dX9_hits_21 : decode cX9_hits 21 = .ok (.iload_n 1, 1) := by decide +kernel
theorem dX9_hits_22 : decode cX9_hits 22 = .ok (.invokestatic 82, 3) := by decide +kernel
theorem dX9_hits_25 : decode cX9_hits 25 = .ok (.goto 9, 3) := by decide +kernel
theorem dX9_hits_28 : decode cX9_hits 28 = .ok (.aload_n 0, 1) := by decide +kernel
theorem dX9_hits_29 : decode cX9_hits 29 = .ok (.getfield 7, 3) := by decide +kernel
theorem dX9_hits_32 : decode cX9_hits 32 = .ok (.iconst 4, 1) := by decide +kernel
theorem dX9_hits_33 : decode cX9_hits 33 = .ok (.iaload, 1) := by decide +kernel
theorem dX9_hits_34 : decode cX9_hits 34 = .ok (.istore 5, 2) := by decide +kernel
theorem dX9_hits_36 : decode cX9_hits 36 = .ok (.iload_n 2, 1) := by decide +kernel
theorem dX9_hits_37 : decode cX9_hits 37 = .ok (.ifCond .eq 10, 3) := by decide +kernel
theorem dX9_hits_40 : decode cX9_hits 40 = .ok (.iload 5, 2) := by decide +kernel
theorem dX9_hits_42 : decode cX9_hits 42 = .ok (.iconst 2, 1) := by decide +kernel
theorem dX9_hits_43 : decode cX9_hits 43 = .ok (.idiv, 1) := by decide +kernel
theorem dX9_hits_44 : decode cX9_hits 44 = .ok (.goto 4, 3) := by decide +kernel
theorem dX9_hits_47 : decode cX9_hits 47 = .ok (.iconst 0, 1) := by decide +kernel
theorem dX9_hits_48 : decode cX9_hits 48 = .ok (.istore 6, 2) := by decide +kernel
theorem dX9_hits_50 : decode cX9_hits 50 = .ok (.aload_n 0, 1) := by decide +kernel
theorem dX9_hits_51 : decode cX9_hits 51 = .ok (.getfield 7, 3) := by decide +kernel
theorem dX9_hits_54 : decode cX9_hits 54 = .ok (.iconst 4, 1) := by decide +kernel
theorem dX9_hits_55 : decode cX9_hits 55 = .ok (.dup2, 1) := by decide +kernel
theorem dX9_hits_56 : decode cX9_hits 56 = .ok (.iaload, 1) := by decide +kernel
theorem dX9_hits_57 : decode cX9_hits 57 = .ok (.iload 5, 2) := by decide +kernel
theorem dX9_hits_59 : decode cX9_hits 59 = .ok (.isub, 1) := by decide +kernel
theorem dX9_hits_60 : decode cX9_hits 60 = .ok (.iastore, 1) := by decide +kernel
theorem dX9_hits_61 : decode cX9_hits 61 = .ok (.aload_n 0, 1) := by decide +kernel
theorem dX9_hits_62 : decode cX9_hits 62 = .ok (.getfield 7, 3) := by decide +kernel
theorem dX9_hits_65 : decode cX9_hits 65 = .ok (.iload 4, 2) := by decide +kernel
theorem dX9_hits_67 : decode cX9_hits 67 = .ok (.iconst 0, 1) := by decide +kernel
theorem dX9_hits_68 : decode cX9_hits 68 = .ok (.invokestatic 51, 3) := by decide +kernel
theorem dX9_hits_71 : decode cX9_hits 71 = .ok (.dup2, 1) := by decide +kernel
theorem dX9_hits_72 : decode cX9_hits 72 = .ok (.iaload, 1) := by decide +kernel
theorem dX9_hits_73 : decode cX9_hits 73 = .ok (.iload 5, 2) := by decide +kernel
theorem dX9_hits_75 : decode cX9_hits 75 = .ok (.iload 6, 2) := by decide +kernel
theorem dX9_hits_77 : decode cX9_hits 77 = .ok (.isub, 1) := by decide +kernel
theorem dX9_hits_78 : decode cX9_hits 78 = .ok (.iadd, 1) := by decide +kernel
theorem dX9_hits_79 : decode cX9_hits 79 = .ok (.iastore, 1) := by decide +kernel
theorem dX9_hits_80 : decode cX9_hits 80 = .ok (.aload_n 0, 1) := by decide +kernel
theorem dX9_hits_81 : decode cX9_hits 81 = .ok (.getfield 7, 3) := by decide +kernel
theorem dX9_hits_84 : decode cX9_hits 84 = .ok (.iload_n 3, 1) := by decide +kernel
theorem dX9_hits_85 : decode cX9_hits 85 = .ok (.iconst 0, 1) := by decide +kernel
theorem dX9_hits_86 : decode cX9_hits 86 = .ok (.invokestatic 51, 3) := by decide +kernel
theorem dX9_hits_89 : decode cX9_hits 89 = .ok (.dup2, 1) := by decide +kernel
theorem dX9_hits_90 : decode cX9_hits 90 = .ok (.iaload, 1) := by decide +kernel
theorem dX9_hits_91 : decode cX9_hits 91 = .ok (.iload 6, 2) := by decide +kernel
theorem dX9_hits_93 : decode cX9_hits 93 = .ok (.iadd, 1) := by decide +kernel
theorem dX9_hits_94 : decode cX9_hits 94 = .ok (.iastore, 1) := by decide +kernel
theorem dX9_hits_95 : decode cX9_hits 95 = .ok (.aload_n 0, 1) := by decide +kernel
theorem dX9_hits_96 : decode cX9_hits 96 = .ok (.getfield 7, 3) := by decide +kernel
theorem dX9_hits_99 : decode cX9_hits 99 = .ok (.iload 4, 2) := by decide +kernel
theorem dX9_hits_101 : decode cX9_hits 101 = .ok (.iconst 2, 1) := by decide +kernel
theorem dX9_hits_102 : decode cX9_hits 102 = .ok (.invokestatic 51, 3) := by decide +kernel
theorem dX9_hits_105 : decode cX9_hits 105 = .ok (.dup2, 1) := by decide +kernel
theorem dX9_hits_106 : decode cX9_hits 106 = .ok (.iaload, 1) := by decide +kernel
theorem dX9_hits_107 : decode cX9_hits 107 = .ok (.iconst 1, 1) := by decide +kernel
theorem dX9_hits_108 : decode cX9_hits 108 = .ok (.iadd, 1) := by decide +kernel
theorem dX9_hits_109 : decode cX9_hits 109 = .ok (.iastore, 1) := by decide +kernel
theorem dX9_hits_110 : decode cX9_hits 110 = .ok (.aload_n 0, 1) := by decide +kernel
theorem dX9_hits_111 : decode cX9_hits 111 = .ok (.getfield 7, 3) := by decide +kernel
theorem dX9_hits_114 : decode cX9_hits 114 = .ok (.bipush 7, 2) := by decide +kernel
theorem dX9_hits_116 : decode cX9_hits 116 = .ok (.dup2, 1) := by decide +kernel
theorem dX9_hits_117 : decode cX9_hits 117 = .ok (.iaload, 1) := by decide +kernel
theorem dX9_hits_118 : decode cX9_hits 118 = .ok (.iload_n 1, 1) := by decide +kernel
theorem dX9_hits_119 : decode cX9_hits 119 = .ok (.ior, 1) := by decide +kernel
theorem dX9_hits_120 : decode cX9_hits 120 = .ok (.iastore, 1) := by decide +kernel
theorem dX9_hits_121 : decode cX9_hits 121 = .ok (.aload_n 0, 1) := by decide +kernel
theorem dX9_hits_122 : decode cX9_hits 122 = .ok (.getfield 7, 3) := by decide +kernel
theorem dX9_hits_125 : decode cX9_hits 125 = .ok (.bipush 7, 2) := by decide +kernel
theorem dX9_hits_127 : decode cX9_hits 127 = .ok (.iaload, 1) := by decide +kernel
theorem dX9_hits_128 : decode cX9_hits 128 = .ok (.iconst 1, 1) := by decide +kernel
theorem dX9_hits_129 : decode cX9_hits 129 = .ok (.aload_n 0, 1) := by decide +kernel
theorem dX9_hits_130 : decode cX9_hits 130 = .ok (.aload_n 0, 1) := by decide +kernel
theorem dX9_hits_131 : decode cX9_hits 131 = .ok (.getfield 7, 3) := by decide +kernel
theorem dX9_hits_134 : decode cX9_hits 134 = .ok (.bipush 13, 2) := by decide +kernel
theorem dX9_hits_136 : decode cX9_hits 136 = .ok (.iaload, 1) := by decide +kernel
theorem dX9_hits_137 : decode cX9_hits 137 = .ok (.iconst 0, 1) := by decide +kernel
theorem dX9_hits_138 : decode cX9_hits 138 = .ok (.invokevirtual 29, 3) := by decide +kernel
theorem dX9_hits_141 : decode cX9_hits 141 = .ok (.ishl, 1) := by decide +kernel
theorem dX9_hits_142 : decode cX9_hits 142 = .ok (.iconst 1, 1) := by decide +kernel
theorem dX9_hits_143 : decode cX9_hits 143 = .ok (.isub, 1) := by decide +kernel
theorem dX9_hits_144 : decode cX9_hits 144 = .ok (.if_icmp .ne 9, 3) := by decide +kernel
theorem dX9_hits_147 : decode cX9_hits 147 = .ok (.aload_n 0, 1) := by decide +kernel
theorem dX9_hits_148 : decode cX9_hits 148 = .ok (.iload 4, 2) := by decide +kernel
theorem dX9_hits_150 : decode cX9_hits 150 = .ok (.invokevirtual 78, 3) := by decide +kernel
theorem dX9_hits_153 : decode cX9_hits 153 = .ok (.return_, 1) := by decide +kernel
theorem dX9_guess_0 : decode cX9_guess 0 = .ok (.iload_n 1, 1) := by decide +kernel
theorem dX9_guess_1 : decode cX9_guess 1 = .ok (.iconst 0, 1) := by decide +kernel
theorem dX9_guess_2 : decode cX9_guess 2 = .ok (.bipush 25, 2) := by decide +kernel
theorem dX9_guess_4 : decode cX9_guess 4 = .ok (.invokestatic 40, 3) := by decide +kernel
theorem dX9_guess_7 : decode cX9_guess 7 = .ok (.ifCond .ne 5, 3) := by decide +kernel
theorem dX9_guess_10 : decode cX9_guess 10 = .ok (.iconst (-1), 1) := by decide +kernel
theorem dX9_guess_11 : decode cX9_guess 11 = .ok (.ireturn, 1) := by decide +kernel
theorem dX9_guess_12 : decode cX9_guess 12 = .ok (.aload_n 0, 1) := by decide +kernel
theorem dX9_guess_13 : decode cX9_guess 13 = .ok (.invokevirtual 44, 3) := by decide +kernel
theorem dX9_guess_16 : decode cX9_guess 16 = .ok (.ifCond .eq 18, 3) := by decide +kernel
theorem dX9_guess_19 : decode cX9_guess 19 = .ok (.aload_n 0, 1) := by decide +kernel
theorem dX9_guess_20 : decode cX9_guess 20 = .ok (.getfield 7, 3) := by decide +kernel
theorem dX9_guess_23 : decode cX9_guess 23 = .ok (.bipush 6, 2) := by decide +kernel
theorem dX9_guess_25 : decode cX9_guess 25 = .ok (.iaload, 1) := by decide +kernel
theorem dX9_guess_26 : decode cX9_guess 26 = .ok (.iload_n 1, 1) := by decide +kernel
theorem dX9_guess_27 : decode cX9_guess 27 = .ok (.ishr, 1) := by decide +kernel
theorem dX9_guess_28 : decode cX9_guess 28 = .ok (.iconst 1, 1) := by decide +kernel
theorem dX9_guess_29 : decode cX9_guess 29 = .ok (.iand, 1) := by decide +kernel
theorem dX9_guess_30 : decode cX9_guess 30 = .ok (.iconst 1, 1) := by decide +kernel
theorem dX9_guess_31 : decode cX9_guess 31 = .ok (.if_icmp .ne 6, 3) := by decide +kernel
theorem dX9_guess_34 : decode cX9_guess 34 = .ok (.bipush (-2), 2) := by decide +kernel
theorem dX9_guess_36 : decode cX9_guess 36 = .ok (.ireturn, 1) := by decide +kernel
theorem dX9_guess_37 : decode cX9_guess 37 = .ok (.aload_n 0, 1) := by decide +kernel
theorem dX9_guess_38 : decode cX9_guess 38 = .ok (.invokevirtual 48, 3) := by decide +kernel
theorem dX9_guess_41 : decode cX9_guess 41 = .ok (.aload_n 0, 1) := by decide +kernel
theorem dX9_guess_42 : decode cX9_guess 42 = .ok (.aload_n 0, 1) := by decide +kernel
theorem dX9_guess_43 : decode cX9_guess 43 = .ok (.getfield 7, 3) := by decide +kernel
theorem dX9_guess_46 : decode cX9_guess 46 = .ok (.bipush 13, 2) := by decide +kernel
theorem dX9_guess_48 : decode cX9_guess 48 = .ok (.iaload, 1) := by decide +kernel
theorem dX9_guess_49 : decode cX9_guess 49 = .ok (.iload_n 1, 1) := by decide +kernel
theorem dX9_guess_50 : decode cX9_guess 50 = .ok (.invokevirtual 85, 3) := by decide +kernel
theorem dX9_guess_53 : decode cX9_guess 53 = .ok (.istore_n 2, 1) := by decide +kernel
theorem dX9_guess_54 : decode cX9_guess 54 = .ok (.aload_n 0, 1) := by decide +kernel
theorem dX9_guess_55 : decode cX9_guess 55 = .ok (.getfield 7, 3) := by decide +kernel
theorem dX9_guess_58 : decode cX9_guess 58 = .ok (.iconst 3, 1) := by decide +kernel
theorem dX9_guess_59 : decode cX9_guess 59 = .ok (.iaload, 1) := by decide +kernel
theorem dX9_guess_60 : decode cX9_guess 60 = .ok (.istore_n 3, 1) := by decide +kernel
theorem dX9_guess_61 : decode cX9_guess 61 = .ok (.aload_n 0, 1) := by decide +kernel
theorem dX9_guess_62 : decode cX9_guess 62 = .ok (.getfield 7, 3) := by decide +kernel
theorem dX9_guess_65 : decode cX9_guess 65 = .ok (.iload_n 3, 1) := by decide +kernel
theorem dX9_guess_66 : decode cX9_guess 66 = .ok (.iconst 4, 1) := by decide +kernel
theorem dX9_guess_67 : decode cX9_guess 67 = .ok (.invokestatic 51, 3) := by decide +kernel
theorem dX9_guess_70 : decode cX9_guess 70 = .ok (.iaload, 1) := by decide +kernel
theorem dX9_guess_71 : decode cX9_guess 71 = .ok (.iload_n 1, 1) := by decide +kernel
theorem dX9_guess_72 : decode cX9_guess 72 = .ok (.if_icmp .ne 7, 3) := by decide +kernel
theorem dX9_guess_75 : decode cX9_guess 75 = .ok (.iconst 1, 1) := by decide +kernel
theorem dX9_guess_76 : decode cX9_guess 76 = .ok (.goto 4, 3) := by decide +kernel
theorem dX9_guess_79 : decode cX9_guess 79 = .ok (.iconst 0, 1) := by decide +kernel
theorem dX9_guess_80 : decode cX9_guess 80 = .ok (.istore 4, 2) := by decide +kernel
theorem dX9_guess_82 : decode cX9_guess 82 = .ok (.aload_n 0, 1) := by decide +kernel
theorem dX9_guess_83 : decode cX9_guess 83 = .ok (.getfield 7, 3) := by decide +kernel
theorem dX9_guess_86 : decode cX9_guess 86 = .ok (.iload_n 3, 1) := by decide +kernel
theorem dX9_guess_87 : decode cX9_guess 87 = .ok (.iconst 4, 1) := by decide +kernel
theorem dX9_guess_88 : decode cX9_guess 88 = .ok (.invokestatic 51, 3) := by decide +kernel
theorem dX9_guess_91 : decode cX9_guess 91 = .ok (.bipush 26, 2) := by decide +kernel
theorem dX9_guess_93 : decode cX9_guess 93 = .ok (.iastore, 1) := by decide +kernel
theorem dX9_guess_94 : decode cX9_guess 94 = .ok (.aload_n 0, 1) := by decide +kernel
theorem dX9_guess_95 : decode cX9_guess 95 = .ok (.getfield 7, 3) := by decide +kernel
theorem dX9_guess_98 : decode cX9_guess 98 = .ok (.bipush 6, 2) := by decide +kernel
theorem dX9_guess_100 : decode cX9_guess 100 = .ok (.dup2, 1) := by decide +kernel
theorem dX9_guess_101 : decode cX9_guess 101 = .ok (.iaload, 1) := by decide +kernel
theorem dX9_guess_102 : decode cX9_guess 102 = .ok (.iconst 1, 1) := by decide +kernel
theorem dX9_guess_103 : decode cX9_guess 103 = .ok (.iload_n 1, 1) := by decide +kernel
theorem dX9_guess_104 : decode cX9_guess 104 = .ok (.ishl, 1) := by decide +kernel
theorem dX9_guess_105 : decode cX9_guess 105 = .ok (.ior, 1) := by decide +kernel
theorem dX9_guess_106 : decode cX9_guess 106 = .ok (.iastore, 1) := by decide +kernel
theorem dX9_guess_107 : decode cX9_guess 107 = .ok (.iload_n 2, 1) := by decide +kernel
theorem dX9_guess_108 : decode cX9_guess 108 = .ok (.ifCond .ne 10, 3) := by decide +kernel
theorem dX9_guess_111 : decode cX9_guess 111 = .ok (.aload_n 0, 1) := by decide +kernel
theorem dX9_guess_112 : decode cX9_guess 112 = .ok (.invokevirtual 88, 3) := by decide +kernel
theorem dX9_guess_115 : decode cX9_guess 115 = .ok (.goto 29, 3) := by decide +kernel
theorem dX9_guess_118 : decode cX9_guess 118 = .ok (.aload_n 0, 1) := by decide +kernel
theorem dX9_guess_119 : decode cX9_guess 119 = .ok (.iload_n 2, 1) := by decide +kernel
theorem dX9_guess_120 : decode cX9_guess 120 = .ok (.iload 4, 2) := by decide +kernel
