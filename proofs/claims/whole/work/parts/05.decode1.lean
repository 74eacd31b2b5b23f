theorem dX0_init_0 : decode cX0_init 0 = .ok (.aload_n 0, 1) := by decide +kernel
theorem dX0_init_1 : decode cX0_init 1 = .ok (.invokespecial 3, 3) := by decide +kernel
theorem dX0_init_4 : decode cX0_init 4 = .ok (.aload_n 0, 1) := by decide +kernel
theorem dX0_init_5 : decode cX0_init 5 = .ok (.new 9, 3) := by decide +kernel
theorem dX0_init_8 : decode cX0_init 8 = .ok (.dup, 1) := by decide +kernel
theorem dX0_init_9 : decode cX0_init 9 = .ok (.iconst 5, 1) := by decide +kernel
theorem dX0_init_10 : decode cX0_init 10 = .ok (.invokespecial 11, 3) := by decide +kernel
theorem dX0_init_13 : decode cX0_init 13 = .ok (.putfield 14, 3) := by decide +kernel
theorem dX0_init_16 : decode cX0_init 16 = .ok (.aload_n 0, 1) := by decide +kernel
theorem dX0_init_17 : decode cX0_init 17 = .ok (.new 9, 3) := by decide +kernel
theorem dX0_init_20 : decode cX0_init 20 = .ok (.dup, 1) := by decide +kernel
theorem dX0_init_21 : decode cX0_init 21 = .ok (.iconst 5, 1) := by decide +kernel
theorem dX0_init_22 : decode cX0_init 22 = .ok (.invokespecial 11, 3) := by decide +kernel
theorem dX0_init_25 : decode cX0_init 25 = .ok (.putfield 20, 3) := by decide +kernel
theorem dX0_init_28 : decode cX0_init 28 = .ok (.aload_n 0, 1) := by decide +kernel
theorem dX0_init_29 : decode cX0_init 29 = .ok (.new 9, 3) := by decide +kernel
theorem dX0_init_32 : decode cX0_init 32 = .ok (.dup, 1) := by decide +kernel
theorem dX0_init_33 : decode cX0_init 33 = .ok (.iconst 5, 1) := by decide +kernel
theorem dX0_init_34 : decode cX0_init 34 = .ok (.invokespecial 11, 3) := by decide +kernel
theorem dX0_init_37 : decode cX0_init 37 = .ok (.putfield 23, 3) := by decide +kernel
theorem dX0_init_40 : decode cX0_init 40 = .ok (.aload_n 0, 1) := by decide +kernel
theorem dX0_init_41 : decode cX0_init 41 = .ok (.new 9, 3) := by decide +kernel
theorem dX0_init_44 : decode cX0_init 44 = .ok (.dup, 1) := by decide +kernel
theorem dX0_init_45 : decode cX0_init 45 = .ok (.iconst 5, 1) := by decide +kernel
theorem dX0_init_46 : decode cX0_init 46 = .ok (.invokespecial 11, 3) := by decide +kernel
theorem dX0_init_49 : decode cX0_init 49 = .ok (.putfield 26, 3) := by decide +kernel
theorem dX0_init_52 : decode cX0_init 52 = .ok (.aload_n 0, 1) := by decide +kernel
theorem dX0_init_53 : decode cX0_init 53 = .ok (.new 9, 3) := by decide +kernel
theorem dX0_init_56 : decode cX0_init 56 = .ok (.dup, 1) := by decide +kernel
theorem dX0_init_57 : decode cX0_init 57 = .ok (.iconst 5, 1) := by decide +kernel
theorem dX0_init_58 : decode cX0_init 58 = .ok (.invokespecial 11, 3) := by decide +kernel
theorem dX0_init_61 : decode cX0_init 61 = .ok (.putfield 29, 3) := by decide +kernel
theorem dX0_init_64 : decode cX0_init 64 = .ok (.aload_n 0, 1) := by decide +kernel
theorem dX0_init_65 : decode cX0_init 65 = .ok (.new 9, 3) := by decide +kernel
theorem dX0_init_68 : decode cX0_init 68 = .ok (.dup, 1) := by decide +kernel
theorem dX0_init_69 : decode cX0_init 69 = .ok (.iconst 5, 1) := by decide +kernel
theorem dX0_init_70 : decode cX0_init 70 = .ok (.invokespecial 11, 3) := by decide +kernel
theorem dX0_init_73 : decode cX0_init 73 = .ok (.putfield 32, 3) := by decide +kernel
theorem dX0_init_76 : decode cX0_init 76 = .ok (.return_, 1) := by decide +kernel
theorem dX0_copyFrom_0 : decode cX0_copyFrom 0 = .ok (.aload_n 0, 1) := by decide +kernel
theorem dX0_copyFrom_1 : decode cX0_copyFrom 1 = .ok (.aload_n 1, 1) := by decide +kernel
theorem dX0_copyFrom_2 : decode cX0_copyFrom 2 = .ok (.getfield 35, 3) := by decide +kernel
theorem dX0_copyFrom_5 : decode cX0_copyFrom 5 = .ok (.putfield 35, 3) := by decide +kernel
theorem dX0_copyFrom_8 : decode cX0_copyFrom 8 = .ok (.aload_n 0, 1) := by decide +kernel
theorem dX0_copyFrom_9 : decode cX0_copyFrom 9 = .ok (.getfield 14, 3) := by decide +kernel
theorem dX0_copyFrom_12 : decode cX0_copyFrom 12 = .ok (.aload_n 1, 1) := by decide +kernel
theorem dX0_copyFrom_13 : decode cX0_copyFrom 13 = .ok (.getfield 14, 3) := by decide +kernel
theorem dX0_copyFrom_16 : decode cX0_copyFrom 16 = .ok (.invokevirtual 39, 3) := by decide +kernel
theorem dX0_copyFrom_19 : decode cX0_copyFrom 19 = .ok (.aload_n 0, 1) := by decide +kernel
theorem dX0_copyFrom_20 : decode cX0_copyFrom 20 = .ok (.getfield 20, 3) := by decide +kernel
theorem dX0_copyFrom_23 : decode cX0_copyFrom 23 = .ok (.aload_n 1, 1) := by decide +kernel
theorem dX0_copyFrom_24 : decode cX0_copyFrom 24 = .ok (.getfield 20, 3) := by decide +kernel
theorem dX0_copyFrom_27 : decode cX0_copyFrom 27 = .ok (.invokevirtual 39, 3) := by decide +kernel
theorem dX0_copyFrom_30 : decode cX0_copyFrom 30 = .ok (.aload_n 0, 1) := by decide +kernel
theorem dX0_copyFrom_31 : decode cX0_copyFrom 31 = .ok (.getfield 23, 3) := by decide +kernel
theorem dX0_copyFrom_34 : decode cX0_copyFrom 34 = .ok (.aload_n 1, 1) := by decide +kernel
theorem dX0_copyFrom_35 : decode cX0_copyFrom 35 = .ok (.getfield 23, 3) := by decide +kernel
theorem dX0_copyFrom_38 : decode cX0_copyFrom 38 = .ok (.invokevirtual 39, 3) := by decide +kernel
theorem dX0_copyFrom_41 : decode cX0_copyFrom 41 = .ok (.aload_n 0, 1) := by decide +kernel
theorem dX0_copyFrom_42 : decode cX0_copyFrom 42 = .ok (.getfield 26, 3) := by decide +kernel
theorem dX0_copyFrom_45 : decode cX0_copyFrom 45 = .ok (.aload_n 1, 1) := by decide +kernel
theorem dX0_copyFrom_46 : decode cX0_copyFrom 46 = .ok (.getfield 26, 3) := by decide +kernel
theorem dX0_copyFrom_49 : decode cX0_copyFrom 49 = .ok (.invokevirtual 39, 3) := by decide +kernel
theorem dX0_copyFrom_52 : decode cX0_copyFrom 52 = .ok (.aload_n 0, 1) := by decide +kernel
theorem dX0_copyFrom_53 : decode cX0_copyFrom 53 = .ok (.getfield 29, 3) := by decide +kernel
theorem dX0_copyFrom_56 : decode cX0_copyFrom 56 = .ok (.aload_n 1, 1) := by decide +kernel
theorem dX0_copyFrom_57 : decode cX0_copyFrom 57 = .ok (.getfield 29, 3) := by decide +kernel
theorem dX0_copyFrom_60 : decode cX0_copyFrom 60 = .ok (.invokevirtual 39, 3) := by decide +kernel
theorem dX0_copyFrom_63 : decode cX0_copyFrom 63 = .ok (.aload_n 0, 1) := by decide +kernel
theorem dX0_copyFrom_64 : decode cX0_copyFrom 64 = .ok (.getfield 32, 3) := by decide +kernel
theorem dX0_copyFrom_67 : decode cX0_copyFrom 67 = .ok (.aload_n 1, 1) := by decide +kernel
theorem dX0_copyFrom_68 : decode cX0_copyFrom 68 = .ok (.getfield 32, 3) := by decide +kernel
theorem dX0_copyFrom_71 : decode cX0_copyFrom 71 = .ok (.invokevirtual 39, 3) := by decide +kernel
theorem dX0_copyFrom_74 : decode cX0_copyFrom 74 = .ok (.return_, 1) := by decide +kernel
theorem dX0_has_0 : decode cX0_has 0 = .ok (.iload_n 1, 1) := by decide +kernel
theorem dX0_has_1 : decode cX0_has 1 = .ok (.ifCond .lt 15, 3) := by decide +kernel
theorem dX0_has_4 : decode cX0_has 4 = .ok (.iload_n 1, 1) := by decide +kernel
theorem dX0_has_5 : decode cX0_has 5 = .ok (.aload_n 0, 1) := by decide +kernel
theorem dX0_has_6 : decode cX0_has 6 = .ok (.getfield 35, 3) := by decide +kernel
theorem dX0_has_9 : decode cX0_has 9 = .ok (.if_icmp .ge 7, 3) := by decide +kernel
theorem dX0_has_12 : decode cX0_has 12 = .ok (.iconst 1, 1) := by decide +kernel
theorem dX0_has_13 : decode cX0_has 13 = .ok (.goto 4, 3) := by decide +kernel
theorem dX0_has_16 : decode cX0_has 16 = .ok (.iconst 0, 1) := by decide +kernel
theorem dX0_has_17 : decode cX0_has 17 = .ok (.ireturn, 1) := by decide +kernel
theorem dX0_add_0 : decode cX0_add 0 = .ok (.aload_n 0, 1) := by decide +kernel
theorem dX0_add_1 : decode cX0_add 1 = .ok (.getfield 35, 3) := by decide +kernel
theorem dX0_add_4 : decode cX0_add 4 = .ok (.istore_n 2, 1) := by decide +kernel
theorem dX0_add_5 : decode cX0_add 5 = .ok (.aload_n 0, 1) := by decide +kernel
theorem dX0_add_6 : decode cX0_add 6 = .ok (.getfield 14, 3) := by decide +kernel
theorem dX0_add_9 : decode cX0_add 9 = .ok (.iload_n 2, 1) := by decide +kernel
theorem dX0_add_10 : decode cX0_add 10 = .ok (.iload_n 1, 1) := by decide +kernel
theorem dX0_add_11 : decode cX0_add 11 = .ok (.invokevirtual 43, 3) := by decide +kernel
theorem dX0_add_14 : decode cX0_add 14 = .ok (.aload_n 0, 1) := by decide +kernel
theorem dX0_add_15 : decode cX0_add 15 = .ok (.getfield 20, 3) := by decide +kernel
theorem dX0_add_18 : decode cX0_add 18 = .ok (.iload_n 2, 1) := by decide +kernel
theorem dX0_add_19 : decode cX0_add 19 = .ok (.iconst 0, 1) := by decide +kernel
theorem dX0_add_20 : decode cX0_add 20 = .ok (.invokevirtual 43, 3) := by decide +kernel
theorem dX0_add_23 : decode cX0_add 23 = .ok (.aload_n 0, 1) := by decide +kernel
theorem dX0_add_24 : decode cX0_add 24 = .ok (.getfield 23, 3) := by decide +kernel
theorem dX0_add_27 : decode cX0_add 27 = .ok (.iload_n 2, 1) := by decide +kernel
theorem dX0_add_28 : decode cX0_add 28 = .ok (.iconst 0, 1) := by decide +kernel
theorem dX0_add_29 : decode cX0_add 29 = .ok (.invokevirtual 43, 3) := by decide +kernel
theorem dX0_add_32 : decode cX0_add 32 = .ok (.aload_n 0, 1) := by decide +kernel
theorem dX0_add_33 : decode cX0_add 33 = .ok (.getfield 26, 3) := by decide +kernel
theorem dX0_add_36 : decode cX0_add 36 = .ok (.iload_n 2, 1) := by decide +kernel
theorem dX0_add_37 : decode cX0_add 37 = .ok (.iconst 0, 1) := by decide +kernel
theorem dX0_add_38 : decode cX0_add 38 = .ok (.invokevirtual 43, 3) := by decide +kernel
theorem dX0_add_41 : decode cX0_add 41 = .ok (.aload_n 0, 1) := by decide +kernel
theorem dX0_add_42 : decode cX0_add 42 = .ok (.iload_n 2, 1) := by decide +kernel
theorem dX0_add_43 : decode cX0_add 43 = .ok (.invokevirtual 47, 3) := by decide +kernel
theorem dX0_add_46 : decode cX0_add 46 = .ok (.aload_n 0, 1) := by decide +kernel
theorem dX0_add_47 : decode cX0_add 47 = .ok (.dup, 1) := by decide +kernel
theorem dX0_add_48 : decode cX0_add 48 = .ok (.getfield 35, 3) := by decide +kernel
theorem dX0_add_51 : decode cX0_add 51 = .ok (.iconst 1, 1) := by decide +kernel
theorem dX0_add_52 : decode cX0_add 52 = .ok (.iadd, 1) := by decide +kernel
theorem dX0_add_53 : decode cX0_add 53 = .ok (.putfield 35, 3) := by decide +kernel
theorem dX0_add_56 : decode cX0_add 56 = .ok (.iload_n 2, 1) := by decide +kernel
theorem dX0_add_57 : decode cX0_add 57 = .ok (.ireturn, 1) := by decide +kernel
theorem dX0_canAllPay_0 : decode cX0_canAllPay 0 = .ok (.iconst 0, 1) := by decide +kernel
theorem dX0_canAllPay_1 : decode cX0_canAllPay 1 = .ok (.istore_n 2, 1) := by decide +kernel
theorem dX0_canAllPay_2 : decode cX0_canAllPay 2 = .ok (.iload_n 2, 1) := by decide +kernel
theorem dX0_canAllPay_3 : decode cX0_canAllPay 3 = .ok (.aload_n 0, 1) := by decide +kernel
theorem dX0_canAllPay_4 : decode cX0_canAllPay 4 = .ok (.getfield 35, 3) := by decide +kernel
theorem dX0_canAllPay_7 : decode cX0_canAllPay 7 = .ok (.if_icmp .ge 23, 3) := by decide +kernel
theorem dX0_canAllPay_10 : decode cX0_canAllPay 10 = .ok (.aload_n 0, 1) := by decide +kernel
theorem dX0_canAllPay_11 : decode cX0_canAllPay 11 = .ok (.getfield 14, 3) := by decide +kernel
theorem dX0_canAllPay_14 : decode cX0_canAllPay 14 = .ok (.iload_n 2, 1) := by decide +kernel
theorem dX0_canAllPay_15 : decode cX0_canAllPay 15 = .ok (.invokevirtual 50, 3) := by decide +kernel
theorem dX0_canAllPay_18 : decode cX0_canAllPay 18 = .ok (.iload_n 1, 1) := by decide +kernel
theorem dX0_canAllPay_19 : decode cX0_canAllPay 19 = .ok (.if_icmp .ge 5, 3) := by decide +kernel
theorem dX0_canAllPay_22 : decode cX0_canAllPay 22 = .ok (.iconst 0, 1) := by decide +kernel
theorem dX0_canAllPay_23 : decode cX0_canAllPay 23 = .ok (.ireturn, 1) := by decide +kernel
theorem dX0_canAllPay_24 : decode cX0_canAllPay 24 = .ok (.iinc 2 1, 3) := by decide +kernel
theorem dX0_canAllPay_27 : decode cX0_canAllPay 27 = .ok (.goto (-25), 3) := by decide +kernel
theorem dX0_canAllPay_30 : decode cX0_canAllPay 30 = .ok (.iconst 1, 1) := by decide +kernel
theorem dX0_canAllPay_31 : decode cX0_canAllPay 31 = .ok (.ireturn, 1) := by decide +kernel
theorem dX0_takeFromAll_0 : decode cX0_takeFromAll 0 = .ok (.iconst 0, 1) := by decide +kernel
theorem dX0_takeFromAll_1 : decode cX0_takeFromAll 1 = .ok (.istore_n 2, 1) := by decide +kernel
theorem dX0_takeFromAll_2 : decode cX0_takeFromAll 2 = .ok (.iload_n 2, 1) := by decide +kernel
theorem dX0_takeFromAll_3 : decode cX0_takeFromAll 3 = .ok (.aload_n 0, 1) := by decide +kernel
theorem dX0_takeFromAll_4 : decode cX0_takeFromAll 4 = .ok (.getfield 35, 3) := by decide +kernel
theorem dX0_takeFromAll_7 : decode cX0_takeFromAll 7 = .ok (.if_icmp .ge 19, 3) := by decide +kernel
theorem dX0_takeFromAll_10 : decode cX0_takeFromAll 10 = .ok (.aload_n 0, 1) := by decide +kernel
theorem dX0_takeFromAll_11 : decode cX0_takeFromAll 11 = .ok (.getfield 14, 3) := by decide +kernel
theorem dX0_takeFromAll_14 : decode cX0_takeFromAll 14 = .ok (.iload_n 2, 1) := by decide +kernel
theorem dX0_takeFromAll_15 : decode cX0_takeFromAll 15 = .ok (.iload_n 1, 1) := by decide +kernel
theorem dX0_takeFromAll_16 : decode cX0_takeFromAll 16 = .ok (.ineg, 1) := by decide +kernel
theorem dX0_takeFromAll_17 : decode cX0_takeFromAll 17 = .ok (.invokevirtual 54, 3) := by decide +kernel
theorem dX0_takeFromAll_20 : decode cX0_takeFromAll 20 = .ok (.iinc 2 1, 3) := by decide +kernel
theorem dX0_takeFromAll_23 : decode cX0_takeFromAll 23 = .ok (.goto (-21), 3) := by decide +kernel
theorem dX0_takeFromAll_26 : decode cX0_takeFromAll 26 = .ok (.return_, 1) := by decide +kernel
theorem dX0_behind_0 : decode cX0_behind 0 = .ok (.iload_n 1, 1) := by decide +kernel
theorem dX0_behind_1 : decode cX0_behind 1 = .ok (.iconst 1, 1) := by decide +kernel
theorem dX0_behind_2 : decode cX0_behind 2 = .ok (.iadd, 1) := by decide +kernel
theorem dX0_behind_3 : decode cX0_behind 3 = .ok (.aload_n 0, 1) := by decide +kernel
theorem dX0_behind_4 : decode cX0_behind 4 = .ok (.getfield 35, 3) := by decide +kernel
theorem dX0_behind_7 : decode cX0_behind 7 = .ok (.if_icmp .ge 9, 3) := by decide +kernel
theorem dX0_behind_10 : decode cX0_behind 10 = .ok (.iload_n 1, 1) := by decide +kernel
theorem dX0_behind_11 : decode cX0_behind 11 = .ok (.iconst 1, 1) := by decide +kernel
theorem dX0_behind_12 : decode cX0_behind 12 = .ok (.iadd, 1) := by decide +kernel
theorem dX0_behind_13 : decode cX0_behind 13 = .ok (.goto 4, 3) := by decide +kernel
theorem dX0_behind_16 : decode cX0_behind 16 = .ok (.iconst 0, 1) := by decide +kernel
theorem dX0_behind_17 : decode cX0_behind 17 = .ok (.ireturn, 1) := by decide +kernel
theorem dX0_hasHint_0 : decode cX0_hasHint 0 = .ok (.aload_n 0, 1) := by decide +kernel
theorem dX0_hasHint_1 : decode cX0_hasHint 1 = .ok (.getfield 29, 3) := by decide +kernel
theorem dX0_hasHint_4 : decode cX0_hasHint 4 = .ok (.iload_n 1, 1) := by decide +kernel
theorem dX0_hasHint_5 : decode cX0_hasHint 5 = .ok (.invokevirtual 50, 3) := by decide +kernel
theorem dX0_hasHint_8 : decode cX0_hasHint 8 = .ok (.bipush 26, 2) := by decide +kernel
theorem dX0_hasHint_10 : decode cX0_hasHint 10 = .ok (.if_icmp .eq 7, 3) := by decide +kernel
theorem dX0_hasHint_13 : decode cX0_hasHint 13 = .ok (.iconst 1, 1) := by decide +kernel
theorem dX0_hasHint_14 : decode cX0_hasHint 14 = .ok (.goto 4, 3) := by decide +kernel
theorem dX0_hasHint_17 : decode cX0_hasHint 17 = .ok (.iconst 0, 1) := by decide +kernel
theorem dX0_hasHint_18 : decode cX0_hasHint 18 = .ok (.ireturn, 1) := by decide +kernel
theorem dX0_dropHint_0 : decode cX0_dropHint 0 = .ok (.aload_n 0, 1) := by decide +kernel
theorem dX0_dropHint_1 : decode cX0_dropHint 1 = .ok (.getfield 29, 3) := by decide +kernel
theorem dX0_dropHint_4 : decode cX0_dropHint 4 = .ok (.iload_n 1, 1) := by decide +kernel
theorem dX0_dropHint_5 : decode cX0_dropHint 5 = .ok (.bipush 26, 2) := by decide +kernel
theorem dX0_dropHint_7 : decode cX0_dropHint 7 = .ok (.invokevirtual 43, 3) := by decide +kernel
theorem dX0_dropHint_10 : decode cX0_dropHint 10 = .ok (.return_, 1) := by decide +kernel
theorem dX0_dropHints_0 : decode cX0_dropHints 0 = .ok (.iconst 0, 1) := by decide +kernel
theorem dX0_dropHints_1 : decode cX0_dropHints 1 = .ok (.istore_n 1, 1) := by decide +kernel
theorem dX0_dropHints_2 : decode cX0_dropHints 2 = .ok (.iload_n 1, 1) := by decide +kernel
theorem dX0_dropHints_3 : decode cX0_dropHints 3 = .ok (.aload_n 0, 1) := by decide +kernel
theorem dX0_dropHints_4 : decode cX0_dropHints 4 = .ok (.getfield 35, 3) := by decide +kernel
theorem dX0_dropHints_7 : decode cX0_dropHints 7 = .ok (.if_icmp .ge 14, 3) := by decide +kernel
theorem dX0_dropHints_10 : decode cX0_dropHints 10 = .ok (.aload_n 0, 1) := by decide +kernel
theorem dX0_dropHints_11 : decode cX0_dropHints 11 = .ok (.iload_n 1, 1) := by decide +kernel
theorem dX0_dropHints_12 : decode cX0_dropHints 12 = .ok (.invokevirtual 47, 3) := by decide +kernel
theorem dX0_dropHints_15 : decode cX0_dropHints 15 = .ok (.iinc 1 1, 3) := by decide +kernel
theorem dX0_dropHints_18 : decode cX0_dropHints 18 = .ok (.goto (-16), 3) := by decide +kernel
theorem dX0_dropHints_21 : decode cX0_dropHints 21 = .ok (.return_, 1) := by decide +kernel
theorem dX1_init_0 : decode cX1_init 0 = .ok (.aload_n 0, 1) := by decide +kernel
theorem dX1_init_1 : decode cX1_init 1 = .ok (.invokespecial 3, 3) := by decide +kernel
theorem dX1_init_4 : decode cX1_init 4 = .ok (.aload_n 0, 1) := by decide +kernel
theorem dX1_init_5 : decode cX1_init 5 = .ok (.iconst 0, 1) := by decide +kernel
theorem dX1_init_6 : decode cX1_init 6 = .ok (.putfield 9, 3) := by decide +kernel
theorem dX1_init_9 : decode cX1_init 9 = .ok (.aload_n 0, 1) := by decide +kernel
theorem dX1_init_10 : decode cX1_init 10 = .ok (.iconst 0, 1) := by decide +kernel
theorem dX1_init_11 : decode cX1_init 11 = .ok (.putfield 15, 3) := by decide +kernel
theorem dX1_init_14 : decode cX1_init 14 = .ok (.aload_n 0, 1) := by decide +kernel
theorem dX1_init_15 : decode cX1_init 15 = .ok (.iconst 4, 1) := by decide +kernel
theorem dX1_init_16 : decode cX1_init 16 = .ok (.anewarray 18, 3) := by decide +kernel
theorem dX1_init_19 : decode cX1_init 19 = .ok (.putfield 20, 3) := by decide +kernel
theorem dX1_init_22 : decode cX1_init 22 = .ok (.iconst 0, 1) := by decide +kernel
theorem dX1_init_23 : decode cX1_init 23 = .ok (.istore_n 1, 1) := by decide +kernel
theorem dX1_init_24 : decode cX1_init 24 = .ok (.iload_n 1, 1) := by decide +kernel
theorem dX1_init_25 : decode cX1_init 25 = .ok (.aload_n 0, 1) := by decide +kernel
theorem dX1_init_26 : decode cX1_init 26 = .ok (.getfield 20, 3) := by decide +kernel
theorem dX1_init_29 : decode cX1_init 29 = .ok (.arraylength, 1) := by decide +kernel
theorem dX1_init_30 : decode cX1_init 30 = .ok (.if_icmp .ge 22, 3) := by decide +kernel
theorem dX1_init_33 : decode cX1_init 33 = .ok (.aload_n 0, 1) := by decide +kernel
theorem dX1_init_34 : decode cX1_init 34 = .ok (.getfield 20, 3) := by decide +kernel
theorem dX1_init_37 : decode cX1_init 37 = .ok (.iload_n 1, 1) := by decide +kernel
theorem dX1_init_38 : decode cX1_init 38 = .ok (.new 18, 3) := by decide +kernel
theorem dX1_init_41 : decode cX1_init 41 = .ok (.dup, 1) := by decide +kernel
theorem dX1_init_42 : decode cX1_init 42 = .ok (.invokespecial 24, 3) := by decide +kernel
theorem dX1_init_45 : decode cX1_init 45 = .ok (.aastore, 1) := by decide +kernel
theorem dX1_init_46 : decode cX1_init 46 = .ok (.iinc 1 1, 3) := by decide +kernel
theorem dX1_init_49 : decode cX1_init 49 = .ok (.goto (-25), 3) := by decide +kernel
theorem dX1_init_52 : decode cX1_init 52 = .ok (.return_, 1) := by decide +kernel
theorem dX1_record_0 : decode cX1_record 0 = .ok (.aload_n 0, 1) := by decide +kernel
theorem dX1_record_1 : decode cX1_record 1 = .ok (.aload_n 0, 1) := by decide +kernel
theorem dX1_record_2 : decode cX1_record 2 = .ok (.getfield 15, 3) := by decide +kernel
theorem dX1_record_5 : decode cX1_record 5 = .ok (.invokevirtual 25, 3) := by decide +kernel
theorem dX1_record_8 : decode cX1_record 8 = .ok (.astore_n 2, 1) := by decide +kernel
theorem dX1_record_9 : decode cX1_record 9 = .ok (.aload_n 2, 1) := by decide +kernel
theorem dX1_record_10 : decode cX1_record 10 = .ok (.ifnull 34, 3) := by decide +kernel
theorem dX1_record_13 : decode cX1_record 13 = .ok (.aload_n 2, 1) := by decide +kernel
theorem dX1_record_14 : decode cX1_record 14 = .ok (.aload_n 1, 1) := by decide +kernel
theorem dX1_record_15 : decode cX1_record 15 = .ok (.invokevirtual 29, 3) := by decide +kernel
theorem dX1_record_18 : decode cX1_record 18 = .ok (.aload_n 0, 1) := by decide +kernel
theorem dX1_record_19 : decode cX1_record 19 = .ok (.aload_n 0, 1) := by decide +kernel
theorem dX1_record_20 : decode cX1_record 20 = .ok (.getfield 15, 3) := by decide +kernel
theorem dX1_record_23 : decode cX1_record 23 = .ok (.iconst 1, 1) := by decide +kernel
theorem dX1_record_24 : decode cX1_record 24 = .ok (.iadd, 1) := by decide +kernel
theorem dX1_record_25 : decode cX1_record 25 = .ok (.iconst 4, 1) := by decide +kernel
theorem dX1_record_26 : decode cX1_record 26 = .ok (.irem, 1) := by decide +kernel
theorem dX1_record_27 : decode cX1_record 27 = .ok (.putfield 15, 3) := by decide +kernel
theorem dX1_record_30 : decode cX1_record 30 = .ok (.aload_n 0, 1) := by decide +kernel
theorem dX1_record_31 : decode cX1_record 31 = .ok (.aload_n 0, 1) := by decide +kernel
theorem dX1_record_32 : decode cX1_record 32 = .ok (.getfield 9, 3) := by decide +kernel
theorem dX1_record_35 : decode cX1_record 35 = .ok (.iconst 1, 1) := by decide +kernel
theorem dX1_record_36 : decode cX1_record 36 = .ok (.iadd, 1) := by decide +kernel
theorem dX1_record_37 : decode cX1_record 37 = .ok (.iconst 4, 1) := by decide +kernel
theorem dX1_record_38 : decode cX1_record 38 = .ok (.invokestatic 33, 3) := by decide +kernel
theorem dX1_record_41 : decode cX1_record 41 = .ok (.putfield 9, 3) := by decide +kernel
theorem dX1_record_44 : decode cX1_record 44 = .ok (.return_, 1) := by decide +kernel
theorem dX1_takeLatest_0 : decode cX1_takeLatest 0 = .ok (.aload_n 0, 1) := by decide +kernel
theorem dX1_takeLatest_1 : decode cX1_takeLatest 1 = .ok (.getfield 15, 3) := by decide +kernel
theorem dX1_takeLatest_4 : decode cX1_takeLatest 4 = .ok (.iconst 4, 1) := by decide +kernel
theorem dX1_takeLatest_5 : decode cX1_takeLatest 5 = .ok (.iadd, 1) := by decide +kernel
theorem dX1_takeLatest_6 : decode cX1_takeLatest 6 = .ok (.iconst 1, 1) := by decide +kernel
theorem dX1_takeLatest_7 : decode cX1_takeLatest 7 = .ok (.isub, 1) := by decide +kernel
theorem dX1_takeLatest_8 : decode cX1_takeLatest 8 = .ok (.iconst 4, 1) := by decide +kernel
theorem dX1_takeLatest_9 : decode cX1_takeLatest 9 = .ok (.irem, 1) := by decide +kernel
theorem dX1_takeLatest_10 : decode cX1_takeLatest 10 = .ok (.istore_n 2, 1) := by decide +kernel
theorem dX1_takeLatest_11 : decode cX1_takeLatest 11 = .ok (.aload_n 0, 1) := by decide +kernel
theorem dX1_takeLatest_12 : decode cX1_takeLatest 12 = .ok (.iload_n 2, 1) := by decide +kernel
theorem dX1_takeLatest_13 : decode cX1_takeLatest 13 = .ok (.invokevirtual 25, 3) := by decide +kernel
theorem dX1_takeLatest_16 : decode cX1_takeLatest 16 = .ok (.astore_n 3, 1) := by decide +kernel
theorem dX1_takeLatest_17 : decode cX1_takeLatest 17 = .ok (.aload_n 3, 1) := by decide +kernel
theorem dX1_takeLatest_18 : decode cX1_takeLatest 18 = .ok (.ifnull 27, 3) := by decide +kernel
theorem dX1_takeLatest_21 : decode cX1_takeLatest 21 = .ok (.aload_n 1, 1) := by decide +kernel
theorem dX1_takeLatest_22 : decode cX1_takeLatest 22 = .ok (.aload_n 3, 1) := by decide +kernel
theorem dX1_takeLatest_23 : decode cX1_takeLatest 23 = .ok (.invokevirtual 29, 3) := by decide +kernel
theorem dX1_takeLatest_26 : decode cX1_takeLatest 26 = .ok (.aload_n 0, 1) := by decide +kernel
theorem dX1_takeLatest_27 : decode cX1_takeLatest 27 = .ok (.iload_n 2, 1) := by decide +kernel
theorem dX1_takeLatest_28 : decode cX1_takeLatest 28 = .ok (.putfield 15, 3) := by decide +kernel
theorem dX1_takeLatest_31 : decode cX1_takeLatest 31 = .ok (.aload_n 0, 1) := by decide +kernel
theorem dX1_takeLatest_32 : decode cX1_takeLatest 32 = .ok (.aload_n 0, 1) := by decide +kernel
theorem dX1_takeLatest_33 : decode cX1_takeLatest 33 = .ok (.getfield 9, 3) := by decide +kernel
theorem dX1_takeLatest_36 : decode cX1_takeLatest 36 = .ok (.iconst 1, 1) := by decide +kernel
theorem dX1_takeLatest_37 : decode cX1_takeLatest 37 = .ok (.isub, 1) := by decide +kernel
theorem dX1_takeLatest_38 : decode cX1_takeLatest 38 = .ok (.iconst 0, 1) := by decide +kernel
theorem dX1_takeLatest_39 : decode cX1_takeLatest 39 = .ok (.invokestatic 39, 3) := by decide +kernel
theorem dX1_takeLatest_42 : decode cX1_takeLatest 42 = .ok (.putfield 9, 3) := by decide +kernel
theorem dX1_takeLatest_45 : decode cX1_takeLatest 45 = .ok (.return_, 1) := by decide +kernel
theorem dX1_slotAt_0 : decode cX1_slotAt 0 = .ok (.iload_n 1, 1) := by decide +kernel
theorem dX1_slotAt_1 : decode cX1_slotAt 1 = .ok (.ifCond .lt 21, 3) := by decide +kernel
theorem dX1_slotAt_4 : decode cX1_slotAt 4 = .ok (.iload_n 1, 1) := by decide +kernel
theorem dX1_slotAt_5 : decode cX1_slotAt 5 = .ok (.aload_n 0, 1) := by decide +kernel
theorem dX1_slotAt_6 : decode cX1_slotAt 6 = .ok (.getfield 20, 3) := by decide +kernel
theorem dX1_slotAt_9 : decode cX1_slotAt 9 = .ok (.arraylength, 1) := by decide +kernel
theorem dX1_slotAt_10 : decode cX1_slotAt 10 = .ok (.if_icmp .ge 12, 3) := by decide +kernel
theorem dX1_slotAt_13 : decode cX1_slotAt 13 = .ok (.aload_n 0, 1) := by decide +kernel
theorem dX1_slotAt_14 : decode cX1_slotAt 14 = .ok (.getfield 20, 3) := by decide +kernel
theorem dX1_slotAt_17 : decode cX1_slotAt 17 = .ok (.iload_n 1, 1) := by decide +kernel
theorem dX1_slotAt_18 : decode cX1_slotAt 18 = .ok (.aaload, 1) := by decide +kernel
theorem dX1_slotAt_19 : decode cX1_slotAt 19 = .ok (.goto 4, 3) := by decide +kernel
theorem dX1_slotAt_22 : decode cX1_slotAt 22 = .ok (.aconst_null, 1) := by decide +kernel
theorem dX1_slotAt_23 : decode cX1_slotAt 23 = .ok (.areturn, 1) := by decide +kernel
theorem dX2_init_0 : decode cX2_init 0 = .ok (.aload_n 0, 1) := by decide +kernel
theorem dX2_init_1 : decode cX2_init 1 = .ok (.invokespecial 3, 3) := by decide +kernel
theorem dX2_init_4 : decode cX2_init 4 = .ok (.aload_n 0, 1) := by decide +kernel
theorem dX2_init_5 : decode cX2_init 5 = .ok (.new 9, 3) := by decide +kernel
theorem dX2_init_8 : decode cX2_init 8 = .ok (.dup, 1) := by decide +kernel
theorem dX2_init_9 : decode cX2_init 9 = .ok (.bipush 6, 2) := by decide +kernel
theorem dX2_init_11 : decode cX2_init 11 = .ok (.invokespecial 11, 3) := by decide +kernel
theorem dX2_init_14 : decode cX2_init 14 = .ok (.putfield 14, 3) := by decide +kernel
theorem dX2_init_17 : decode cX2_init 17 = .ok (.aload_n 0, 1) := by decide +kernel
theorem dX2_init_18 : decode cX2_init 18 = .ok (.new 9, 3) := by decide +kernel
theorem dX2_init_21 : decode cX2_init 21 = .ok (.dup, 1) := by decide +kernel
theorem dX2_init_22 : decode cX2_init 22 = .ok (.bipush 6, 2) := by decide +kernel
theorem dX2_init_24 : decode cX2_init 24 = .ok (.invokespecial 11, 3) := by decide +kernel
theorem dX2_init_27 : decode cX2_init 27 = .ok (.putfield 20, 3) := by decide +kernel
theorem dX2_init_30 : decode cX2_init 30 = .ok (.aload_n 0, 1) := by decide +kernel
theorem dX2_init_31 : decode cX2_init 31 = .ok (.new 9, 3) := by decide +kernel
theorem dX2_init_34 : decode cX2_init 34 = .ok (.dup, 1) := by decide +kernel
theorem dX2_init_35 : decode cX2_init 35 = .ok (.bipush 6, 2) := by decide +kernel
theorem dX2_init_37 : decode cX2_init 37 = .ok (.invokespecial 11, 3) := by decide +kernel
theorem dX2_init_40 : decode cX2_init 40 = .ok (.putfield 23, 3) := by decide +kernel
theorem dX2_init_43 : decode cX2_init 43 = .ok (.aload_n 0, 1) := by decide +kernel
theorem dX2_init_44 : decode cX2_init 44 = .ok (.new 9, 3) := by decide +kernel
theorem dX2_init_47 : decode cX2_init 47 = .ok (.dup, 1) := by decide +kernel
theorem dX2_init_48 : decode cX2_init 48 = .ok (.bipush 6, 2) := by decide +kernel
theorem dX2_init_50 : decode cX2_init 50 = .ok (.invokespecial 11, 3) := by decide +kernel
theorem dX2_init_53 : decode cX2_init 53 = .ok (.putfield 26, 3) := by decide +kernel
theorem dX2_init_56 : decode cX2_init 56 = .ok (.return_, 1) := by decide +kernel
theorem dX2_copyFrom_0 : decode cX2_copyFrom 0 = .ok (.aload_n 0, 1) := by decide +kernel
theorem dX2_copyFrom_1 : decode cX2_copyFrom 1 = .ok (.aload_n 1, 1) := by decide +kernel
theorem dX2_copyFrom_2 : decode cX2_copyFrom 2 = .ok (.getfield 29, 3) := by decide +kernel
theorem dX2_copyFrom_5 : decode cX2_copyFrom 5 = .ok (.putfield 29, 3) := by decide +kernel
theorem dX2_copyFrom_8 : decode cX2_copyFrom 8 = .ok (.aload_n 0, 1) := by decide +kernel
theorem dX2_copyFrom_9 : decode cX2_copyFrom 9 = .ok (.getfield 14, 3) := by decide +kernel
theorem dX2_copyFrom_12 : decode cX2_copyFrom 12 = .ok (.aload_n 1, 1) := by decide +kernel
theorem dX2_copyFrom_13 : decode cX2_copyFrom 13 = .ok (.getfield 14, 3) := by decide +kernel
theorem dX2_copyFrom_16 : decode cX2_copyFrom 16 = .ok (.invokevirtual 33, 3) := by decide +kernel
theorem dX2_copyFrom_19 : decode cX2_copyFrom 19 = .ok (.aload_n 0, 1) := by decide +kernel
theorem dX2_copyFrom_20 : decode cX2_copyFrom 20 = .ok (.getfield 20, 3) := by decide +kernel
theorem dX2_copyFrom_23 : decode cX2_copyFrom 23 = .ok (.aload_n 1, 1) := by decide +kernel
theorem dX2_copyFrom_24 : decode cX2_copyFrom 24 = .ok (.getfield 20, 3) := by decide +kernel
theorem dX2_copyFrom_27 : decode cX2_copyFrom 27 = .ok (.invokevirtual 33, 3) := by decide +kernel
theorem dX2_copyFrom_30 : decode cX2_copyFrom 30 = .ok (.aload_n 0, 1) := by decide +kernel
theorem dX2_copyFrom_31 : decode cX2_copyFrom 31 = .ok (.getfield 23, 3) := by decide +kernel
theorem dX2_copyFrom_34 : decode cX2_copyFrom 34 = .ok (.aload_n 1, 1) := by decide +kernel
theorem dX2_copyFrom_35 : decode cX2_copyFrom 35 = .ok (.getfield 23, 3) := by decide +kernel
theorem dX2_copyFrom_38 : decode cX2_copyFrom 38 = .ok (.invokevirtual 33, 3) := by decide +kernel
theorem dX2_copyFrom_41 : decode cX2_copyFrom 41 = .ok (.aload_n 0, 1) := by decide +kernel
theorem dX2_copyFrom_42 : decode cX2_copyFrom 42 = .ok (.getfield 26, 3) := by decide +kernel
theorem dX2_copyFrom_45 : decode cX2_copyFrom 45 = .ok (.aload_n 1, 1) := by decide +kernel
theorem dX2_copyFrom_46 : decode cX2_copyFrom 46 = .ok (.getfield 26, 3) := by decide +kernel
theorem dX2_copyFrom_49 : decode cX2_copyFrom 49 = .ok (.invokevirtual 33, 3) := by decide +kernel
theorem dX2_copyFrom_52 : decode cX2_copyFrom 52 = .ok (.return_, 1) := by decide +kernel
theorem dX2_putFirst_0 : decode cX2_putFirst 0 = .ok (.aload_n 0, 1) := by decide +kernel
theorem dX2_putFirst_1 : decode cX2_putFirst 1 = .ok (.aload_n 0, 1) := by decide +kernel
theorem dX2_putFirst_2 : decode cX2_putFirst 2 = .ok (.getfield 29, 3) := by decide +kernel
theorem dX2_putFirst_5 : decode cX2_putFirst 5 = .ok (.iconst 1, 1) := by decide +kernel
theorem dX2_putFirst_6 : decode cX2_putFirst 6 = .ok (.iadd, 1) := by decide +kernel
theorem dX2_putFirst_7 : decode cX2_putFirst 7 = .ok (.bipush 6, 2) := by decide +kernel
theorem dX2_putFirst_9 : decode cX2_putFirst 9 = .ok (.invokestatic 37, 3) := by decide +kernel
theorem dX2_putFirst_12 : decode cX2_putFirst 12 = .ok (.putfield 29, 3) := by decide +kernel
theorem dX2_putFirst_15 : decode cX2_putFirst 15 = .ok (.aload_n 0, 1) := by decide +kernel
theorem dX2_putFirst_16 : decode cX2_putFirst 16 = .ok (.getfield 29, 3) := by decide +kernel
theorem dX2_putFirst_19 : decode cX2_putFirst 19 = .ok (.iconst 1, 1) := by decide +kernel
theorem dX2_putFirst_20 : decode cX2_putFirst 20 = .ok (.isub, 1) := by decide +kernel
theorem dX2_putFirst_21 : decode cX2_putFirst 21 = .ok (.istore_n 3, 1) := by decide +kernel
theorem dX2_putFirst_22 : decode cX2_putFirst 22 = .ok (.iload_n 3, 1) := by decide +kernel
theorem dX2_putFirst_23 : decode cX2_putFirst 23 = .ok (.ifCond .le 81, 3) := by decide +kernel
theorem dX2_putFirst_26 : decode cX2_putFirst 26 = .ok (.aload_n 0, 1) := by decide +kernel
theorem dX2_putFirst_27 : decode cX2_putFirst 27 = .ok (.getfield 14, 3) := by decide +kernel
theorem dX2_putFirst_30 : decode cX2_putFirst 30 = .ok (.iload_n 3, 1) := by decide +kernel
theorem dX2_putFirst_31 : decode cX2_putFirst 31 = .ok (.aload_n 0, 1) := by decide +kernel
theorem dX2_putFirst_32 : decode cX2_putFirst 32 = .ok (.getfield 14, 3) := by decide +kernel
theorem dX2_putFirst_35 : decode cX2_putFirst 35 = .ok (.iload_n 3, 1) := by decide +kernel
theorem dX2_putFirst_36 : decode cX2_putFirst 36 = .ok (.iconst 1, 1) := by decide +kernel
theorem dX2_putFirst_37 : decode cX2_putFirst 37 = .ok (.isub, 1) := by decide +kernel
theorem dX2_putFirst_38 : decode cX2_putFirst 38 = .ok (.invokevirtual 43, 3) := by decide +kernel
theorem dX2_putFirst_41 : decode cX2_putFirst 41 = .ok (.invokevirtual 47, 3) := by decide +kernel
theorem dX2_putFirst_44 : decode cX2_putFirst 44 = .ok (.aload_n 0, 1) := by decide +kernel
theorem dX2_putFirst_45 : decode cX2_putFirst 45 = .ok (.getfield 20, 3) := by decide +kernel
theorem dX2_putFirst_48 : decode cX2_putFirst 48 = .ok (.iload_n 3, 1) := by decide +kernel
theorem dX2_putFirst_49 : decode cX2_putFirst 49 = .ok (.aload_n 0, 1) := by decide +kernel
theorem dX2_putFirst_50 : decode cX2_putFirst 50 = .ok (.getfield 20, 3) := by decide +kernel
theorem dX2_putFirst_53 : decode cX2_putFirst 53 = .ok (.iload_n 3, 1) := by decide +kernel
theorem dX2_putFirst_54 : decode cX2_putFirst 54 = .ok (.iconst 1, 1) := by decide +kernel
theorem dX2_putFirst_55 : decode cX2_putFirst 55 = .ok (.isub, 1) := by decide +kernel
theorem dX2_putFirst_56 : decode cX2_putFirst 56 = .ok (.invokevirtual 43, 3) := by decide +kernel
theorem dX2_putFirst_59 : decode cX2_putFirst 59 = .ok (.invokevirtual 47, 3) := by decide +kernel
theorem dX2_putFirst_62 : decode cX2_putFirst 62 = .ok (.aload_n 0, 1) := by decide +kernel
theorem dX2_putFirst_63 : decode cX2_putFirst 63 = .ok (.getfield 23, 3) := by decide +kernel
theorem dX2_putFirst_66 : decode cX2_putFirst 66 = .ok (.iload_n 3, 1) := by decide +kernel
theorem dX2_putFirst_67 : decode cX2_putFirst 67 = .ok (.aload_n 0, 1) := by decide +kernel
theorem dX2_putFirst_68 : decode cX2_putFirst 68 = .ok (.getfield 23, 3) := by decide +kernel
theorem dX2_putFirst_71 : decode cX2_putFirst 71 = .ok (.iload_n 3, 1) := by decide +kernel
theorem dX2_putFirst_72 : decode cX2_putFirst 72 = .ok (.iconst 1, 1) := by decide +kernel
theorem dX2_putFirst_73 : decode cX2_putFirst 73 = .ok (.isub, 1) := by decide +kernel
theorem dX2_putFirst_74 : decode cX2_putFirst 74 = .ok (.invokevirtual 43, 3) := by decide +kernel
theorem dX2_putFirst_77 : decode cX2_putFirst 77 = .ok (.invokevirtual 47, 3) := by decide +kernel
theorem dX2_putFirst_80 : decode cX2_putFirst 80 = .ok (.aload_n 0, 1) := by decide +kernel
theorem dX2_putFirst_81 : decode cX2_putFirst 81 = .ok (.getfield 26, 3) := by decide +kernel
theorem dX2_putFirst_84 : decode cX2_putFirst 84 = .ok (.iload_n 3, 1) := by decide +kernel
theorem dX2_putFirst_85 : decode cX2_putFirst 85 = .ok (.aload_n 0, 1) := by decide +kernel
theorem dX2_putFirst_86 : decode cX2_putFirst 86 = .ok (.getfield 26, 3) := by decide +kernel
theorem dX2_putFirst_89 : decode cX2_putFirst 89 = .ok (.iload_n 3, 1) := by decide +kernel
theorem dX2_putFirst_90 : decode cX2_putFirst 90 = .ok (.iconst 1, 1) := by decide +kernel
theorem dX2_putFirst_91 : decode cX2_putFirst 91 = .ok (.isub, 1) := by decide +kernel
theorem dX2_putFirst_92 : decode cX2_putFirst 92 = .ok (.invokevirtual 43, 3) := by decide +kernel
theorem dX2_putFirst_95 : decode cX2_putFirst 95 = .ok (.invokevirtual 47, 3) := by decide +kernel
theorem dX2_putFirst_98 : decode cX2_putFirst 98 = .ok (.iinc 3 (-1), 3) := by decide +kernel
theorem dX2_putFirst_101 : decode cX2_putFirst 101 = .ok (.goto (-79), 3) := by decide +kernel
theorem dX2_putFirst_104 : decode cX2_putFirst 104 = .ok (.aload_n 0, 1) := by decide +kernel
theorem dX2_putFirst_105 : decode cX2_putFirst 105 = .ok (.getfield 14, 3) := by decide +kernel
theorem dX2_putFirst_108 : decode cX2_putFirst 108 = .ok (.iconst 0, 1) := by decide +kernel
theorem dX2_putFirst_109 : decode cX2_putFirst 109 = .ok (.aload_n 1, 1) := by decide +kernel
theorem dX2_putFirst_110 : decode cX2_putFirst 110 = .ok (.getfield 51, 3) := by decide +kernel
theorem dX2_putFirst_113 : decode cX2_putFirst 113 = .ok (.invokevirtual 47, 3) := by decide +kernel
theorem dX2_putFirst_116 : decode cX2_putFirst 116 = .ok (.aload_n 0, 1) := by decide +kernel
theorem dX2_putFirst_117 : decode cX2_putFirst 117 = .ok (.getfield 20, 3) := by decide +kernel
theorem dX2_putFirst_120 : decode cX2_putFirst 120 = .ok (.iconst 0, 1) := by decide +kernel
theorem dX2_putFirst_121 : decode cX2_putFirst 121 = .ok (.iload_n 2, 1) := by decide +kernel
theorem dX2_putFirst_122 : decode cX2_putFirst 122 = .ok (.invokevirtual 47, 3) := by decide +kernel
theorem dX2_putFirst_125 : decode cX2_putFirst 125 = .ok (.aload_n 0, 1) := by decide +kernel
theorem dX2_putFirst_126 : decode cX2_putFirst 126 = .ok (.getfield 23, 3) := by decide +kernel
theorem dX2_putFirst_129 : decode cX2_putFirst 129 = .ok (.iconst 0, 1) := by decide +kernel
theorem dX2_putFirst_130 : decode cX2_putFirst 130 = .ok (.aload_n 1, 1) := by decide +kernel
theorem dX2_putFirst_131 : decode cX2_putFirst 131 = .ok (.getfield 55, 3) := by decide +kernel
theorem dX2_putFirst_134 : decode cX2_putFirst 134 = .ok (.invokevirtual 47, 3) := by decide +kernel
theorem dX2_putFirst_137 : decode cX2_putFirst 137 = .ok (.aload_n 0, 1) := by decide +kernel
theorem dX2_putFirst_138 : decode cX2_putFirst 138 = .ok (.getfield 26, 3) := by decide +kernel
theorem dX2_putFirst_141 : decode cX2_putFirst 141 = .ok (.iconst 0, 1) := by decide +kernel
theorem dX2_putFirst_142 : decode cX2_putFirst 142 = .ok (.aload_n 1, 1) := by decide +kernel
theorem dX2_putFirst_143 : decode cX2_putFirst 143 = .ok (.getfield 57, 3) := by decide +kernel
theorem dX2_putFirst_146 : decode cX2_putFirst 146 = .ok (.invokevirtual 47, 3) := by decide +kernel
theorem dX2_putFirst_149 : decode cX2_putFirst 149 = .ok (.return_, 1) := by decide +kernel
theorem dX3_init_0 : decode cX3_init 0 = .ok (.aload_n 0, 1) := by decide +kernel
theorem dX3_init_1 : decode cX3_init 1 = .ok (.invokespecial 1, 3) := by decide +kernel
theorem dX3_init_4 : decode cX3_init 4 = .ok (.return_, 1) := by decide +kernel
theorem dX3_copyFrom_0 : decode cX3_copyFrom 0 = .ok (.aload_n 0, 1) := by decide +kernel
theorem dX3_copyFrom_1 : decode cX3_copyFrom 1 = .ok (.aload_n 1, 1) := by decide +kernel
theorem dX3_copyFrom_2 : decode cX3_copyFrom 2 = .ok (.getfield 7, 3) := by decide +kernel
theorem dX3_copyFrom_5 : decode cX3_copyFrom 5 = .ok (.putfield 7, 3) := by decide +kernel
theorem dX3_copyFrom_8 : decode cX3_copyFrom 8 = .ok (.aload_n 0, 1) := by decide +kernel
theorem dX3_copyFrom_9 : decode cX3_copyFrom 9 = .ok (.aload_n 1, 1) := by decide +kernel
theorem dX3_copyFrom_10 : decode cX3_copyFrom 10 = .ok (.getfield 13, 3) := by decide +kernel
theorem dX3_copyFrom_13 : decode cX3_copyFrom 13 = .ok (.putfield 13, 3) := by decide +kernel
theorem dX3_copyFrom_16 : decode cX3_copyFrom 16 = .ok (.aload_n 0, 1) := by decide +kernel
theorem dX3_copyFrom_17 : decode cX3_copyFrom 17 = .ok (.aload_n 1, 1) := by decide +kernel
theorem dX3_copyFrom_18 : decode cX3_copyFrom 18 = .ok (.getfield 17, 3) := by decide +kernel
theorem dX3_copyFrom_21 : decode cX3_copyFrom 21 = .ok (.putfield 17, 3) := by decide +kernel
theorem dX3_copyFrom_24 : decode cX3_copyFrom 24 = .ok (.aload_n 0, 1) := by decide +kernel
theorem dX3_copyFrom_25 : decode cX3_copyFrom 25 = .ok (.aload_n 1, 1) := by decide +kernel
theorem dX3_copyFrom_26 : decode cX3_copyFrom 26 = .ok (.getfield 20, 3) := by decide +kernel
theorem dX3_copyFrom_29 : decode cX3_copyFrom 29 = .ok (.putfield 20, 3) := by decide +kernel
theorem dX3_copyFrom_32 : decode cX3_copyFrom 32 = .ok (.aload_n 0, 1) := by decide +kernel
theorem dX3_copyFrom_33 : decode cX3_copyFrom 33 = .ok (.aload_n 1, 1) := by decide +kernel
theorem dX3_copyFrom_34 : decode cX3_copyFrom 34 = .ok (.getfield 23, 3) := by decide +kernel
theorem dX3_copyFrom_37 : decode cX3_copyFrom 37 = .ok (.putfield 23, 3) := by decide +kernel
theorem dX3_copyFrom_40 : decode cX3_copyFrom 40 = .ok (.aload_n 0, 1) := by decide +kernel
theorem dX3_copyFrom_41 : decode cX3_copyFrom 41 = .ok (.aload_n 1, 1) := by decide +kernel
theorem dX3_copyFrom_42 : decode cX3_copyFrom 42 = .ok (.getfield 26, 3) := by decide +kernel
theorem dX3_copyFrom_45 : decode cX3_copyFrom 45 = .ok (.putfield 26, 3) := by decide +kernel
theorem dX3_copyFrom_48 : decode cX3_copyFrom 48 = .ok (.aload_n 0, 1) := by decide +kernel
theorem dX3_copyFrom_49 : decode cX3_copyFrom 49 = .ok (.aload_n 1, 1) := by decide +kernel
theorem dX3_copyFrom_50 : decode cX3_copyFrom 50 = .ok (.getfield 29, 3) := by decide +kernel
theorem dX3_copyFrom_53 : decode cX3_copyFrom 53 = .ok (.putfield 29, 3) := by decide +kernel
theorem dX3_copyFrom_56 : decode cX3_copyFrom 56 = .ok (.return_, 1) := by decide +kernel
theorem dX3_takes_0 : decode cX3_takes 0 = .ok (.aload_n 0, 1) := by decide +kernel
theorem dX3_takes_1 : decode cX3_takes 1 = .ok (.getfield 7, 3) := by decide +kernel
theorem dX3_takes_4 : decode cX3_takes 4 = .ok (.ifCond .eq 18, 3) := by decide +kernel
theorem dX3_takes_7 : decode cX3_takes 7 = .ok (.aload_n 0, 1) := by decide +kernel
theorem dX3_takes_8 : decode cX3_takes 8 = .ok (.getfield 29, 3) := by decide +kernel
theorem dX3_takes_11 : decode cX3_takes 11 = .ok (.iload_n 1, 1) := by decide +kernel
theorem dX3_takes_12 : decode cX3_takes 12 = .ok (.invokestatic 32, 3) := by decide +kernel
theorem dX3_takes_15 : decode cX3_takes 15 = .ok (.ifCond .ne 7, 3) := by decide +kernel
theorem dX3_takes_18 : decode cX3_takes 18 = .ok (.iconst 1, 1) := by decide +kernel
theorem dX3_takes_19 : decode cX3_takes 19 = .ok (.goto 4, 3) := by decide +kernel
theorem dX3_takes_22 : decode cX3_takes 22 = .ok (.iconst 0, 1) := by decide +kernel
theorem dX3_takes_23 : decode cX3_takes 23 = .ok (.ireturn, 1) := by decide +kernel
theorem dX3_takeFromPot_0 : decode cX3_takeFromPot 0 = .ok (.iload_n 1, 1) := by decide +kernel
theorem dX3_takeFromPot_1 : decode cX3_takeFromPot 1 = .ok (.aload_n 0, 1) := by decide +kernel
theorem dX3_takeFromPot_2 : decode cX3_takeFromPot 2 = .ok (.getfield 23, 3) := by decide +kernel
theorem dX3_takeFromPot_5 : decode cX3_takeFromPot 5 = .ok (.invokestatic 38, 3) := by decide +kernel
theorem dX3_takeFromPot_8 : decode cX3_takeFromPot 8 = .ok (.istore_n 2, 1) := by decide +kernel
theorem dX3_takeFromPot_9 : decode cX3_takeFromPot 9 = .ok (.aload_n 0, 1) := by decide +kernel
theorem dX3_takeFromPot_10 : decode cX3_takeFromPot 10 = .ok (.dup, 1) := by decide +kernel
theorem dX3_takeFromPot_11 : decode cX3_takeFromPot 11 = .ok (.getfield 23, 3) := by decide +kernel
theorem dX3_takeFromPot_14 : decode cX3_takeFromPot 14 = .ok (.iload_n 2, 1) := by decide +kernel
theorem dX3_takeFromPot_15 : decode cX3_takeFromPot 15 = .ok (.isub, 1) := by decide +kernel
theorem dX3_takeFromPot_16 : decode cX3_takeFromPot 16 = .ok (.putfield 23, 3) := by decide +kernel
theorem dX3_takeFromPot_19 : decode cX3_takeFromPot 19 = .ok (.iload_n 2, 1) := by decide +kernel
theorem dX3_takeFromPot_20 : decode cX3_takeFromPot 20 = .ok (.ireturn, 1) := by decide +kernel
theorem dX4_init_0 : decode cX4_init 0 = .ok (.aload_n 0, 1) := by decide +kernel
theorem dX4_init_1 : decode cX4_init 1 = .ok (.invokespecial 1, 3) := by decide +kernel
theorem dX4_init_4 : decode cX4_init 4 = .ok (.aload_n 0, 1) := by decide +kernel
theorem dX4_init_5 : decode cX4_init 5 = .ok (.iload_n 1, 1) := by decide +kernel
theorem dX4_init_6 : decode cX4_init 6 = .ok (.iconst 0, 1) := by decide +kernel
theorem dX4_init_7 : decode cX4_init 7 = .ok (.invokestatic 7, 3) := by decide +kernel
theorem dX4_init_10 : decode cX4_init 10 = .ok (.newarray .int, 2) := by decide +kernel
theorem dX4_init_12 : decode cX4_init 12 = .ok (.putfield 13, 3) := by decide +kernel
theorem dX4_init_15 : decode cX4_init 15 = .ok (.return_, 1) := by decide +kernel
theorem dX4_at_0 : decode cX4_at 0 = .ok (.iload_n 1, 1) := by decide +kernel
theorem dX4_at_1 : decode cX4_at 1 = .ok (.ifCond .lt 21, 3) := by decide +kernel
theorem dX4_at_4 : decode cX4_at 4 = .ok (.iload_n 1, 1) := by decide +kernel
theorem dX4_at_5 : decode cX4_at 5 = .ok (.aload_n 0, 1) := by decide +kernel
theorem dX4_at_6 : decode cX4_at 6 = .ok (.getfield 13, 3) := by decide +kernel
theorem dX4_at_9 : decode cX4_at 9 = .ok (.arraylength, 1) := by decide +kernel
theorem dX4_at_10 : decode cX4_at 10 = .ok (.if_icmp .ge 12, 3) := by decide +kernel
theorem dX4_at_13 : decode cX4_at 13 = .ok (.aload_n 0, 1) := by decide +kernel
theorem dX4_at_14 : decode cX4_at 14 = .ok (.getfield 13, 3) := by decide +kernel
theorem dX4_at_17 : decode cX4_at 17 = .ok (.iload_n 1, 1) := by decide +kernel
theorem dX4_at_18 : decode cX4_at 18 = .ok (.iaload, 1) := by decide +kernel
theorem dX4_at_19 : decode cX4_at 19 = .ok (.goto 4, 3) := by decide +kernel
theorem dX4_at_22 : decode cX4_at 22 = .ok (.iconst 0, 1) := by decide +kernel
theorem dX4_at_23 : decode cX4_at 23 = .ok (.ireturn, 1) := by decide +kernel
theorem dX4_put_0 : decode cX4_put 0 = .ok (.iload_n 1, 1) := by decide +kernel
theorem dX4_put_1 : decode cX4_put 1 = .ok (.ifCond .lt 19, 3) := by decide +kernel
theorem dX4_put_4 : decode cX4_put 4 = .ok (.iload_n 1, 1) := by decide +kernel
theorem dX4_put_5 : decode cX4_put 5 = .ok (.aload_n 0, 1) := by decide +kernel
theorem dX4_put_6 : decode cX4_put 6 = .ok (.getfield 13, 3) := by decide +kernel
theorem dX4_put_9 : decode cX4_put 9 = .ok (.arraylength, 1) := by decide +kernel
theorem dX4_put_10 : decode cX4_put 10 = .ok (.if_icmp .ge 10, 3) := by decide +kernel
theorem dX4_put_13 : decode cX4_put 13 = .ok (.aload_n 0, 1) := by decide +kernel
theorem dX4_put_14 : decode cX4_put 14 = .ok (.getfield 13, 3) := by decide +kernel
theorem dX4_put_17 : decode cX4_put 17 = .ok (.iload_n 1, 1) := by decide +kernel
theorem dX4_put_18 : decode cX4_put 18 = .ok (.iload_n 2, 1) := by decide +kernel
theorem dX4_put_19 : decode cX4_put 19 = .ok (.iastore, 1) := by decide +kernel
theorem dX4_put_20 : decode cX4_put 20 = .ok (.return_, 1) := by decide +kernel
theorem dX4_add_0 : decode cX4_add 0 = .ok (.aload_n 0, 1) := by decide +kernel
theorem dX4_add_1 : decode cX4_add 1 = .ok (.iload_n 1, 1) := by decide +kernel
theorem dX4_add_2 : decode cX4_add 2 = .ok (.aload_n 0, 1) := by decide +kernel
theorem dX4_add_3 : decode cX4_add 3 = .ok (.iload_n 1, 1) := by decide +kernel
theorem dX4_add_4 : decode cX4_add 4 = .ok (.invokevirtual 19, 3) := by decide +kernel
theorem dX4_add_7 : decode cX4_add 7 = .ok (.iload_n 2, 1) := by decide +kernel
theorem dX4_add_8 : decode cX4_add 8 = .ok (.iadd, 1) := by decide +kernel
theorem dX4_add_9 : decode cX4_add 9 = .ok (.invokevirtual 23, 3) := by decide +kernel
theorem dX4_add_12 : decode cX4_add 12 = .ok (.return_, 1) := by decide +kernel
theorem dX4_copyFrom_0 : decode cX4_copyFrom 0 = .ok (.aload_n 1, 1) := by decide +kernel
theorem dX4_copyFrom_1 : decode cX4_copyFrom 1 = .ok (.getfield 13, 3) := by decide +kernel
theorem dX4_copyFrom_4 : decode cX4_copyFrom 4 = .ok (.iconst 0, 1) := by decide +kernel
theorem dX4_copyFrom_5 : decode cX4_copyFrom 5 = .ok (.aload_n 0, 1) := by decide +kernel
theorem dX4_copyFrom_6 : decode cX4_copyFrom 6 = .ok (.getfield 13, 3) := by decide +kernel
theorem dX4_copyFrom_9 : decode cX4_copyFrom 9 = .ok (.iconst 0, 1) := by decide +kernel
theorem dX4_copyFrom_10 : decode cX4_copyFrom 10 = .ok (.aload_n 1, 1) := by decide +kernel
theorem dX4_copyFrom_11 : decode cX4_copyFrom 11 = .ok (.getfield 13, 3) := by decide +kernel
theorem dX4_copyFrom_14 : decode cX4_copyFrom 14 = .ok (.arraylength, 1) := by decide +kernel
theorem dX4_copyFrom_15 : decode cX4_copyFrom 15 = .ok (.aload_n 0, 1) := by decide +kernel
theorem dX4_copyFrom_16 : decode cX4_copyFrom 16 = .ok (.getfield 13, 3) := by decide +kernel
theorem dX4_copyFrom_19 : decode cX4_copyFrom 19 = .ok (.arraylength, 1) := by decide +kernel
theorem dX4_copyFrom_20 : decode cX4_copyFrom 20 = .ok (.invokestatic 27, 3) := by decide +kernel
theorem dX4_copyFrom_23 : decode cX4_copyFrom 23 = .ok (.invokestatic 30, 3) := by decide +kernel
theorem dX4_copyFrom_26 : decode cX4_copyFrom 26 = .ok (.return_, 1) := by decide +kernel
theorem dX5_init_0 : decode cX5_init 0 = .ok (.aload_n 0, 1) := by decide +kernel
theorem dX5_init_1 : decode cX5_init 1 = .ok (.invokespecial 3, 3) := by decide +kernel
theorem dX5_init_4 : decode cX5_init 4 = .ok (.aload_n 0, 1) := by decide +kernel
theorem dX5_init_5 : decode cX5_init 5 = .ok (.new 9, 3) := by decide +kernel
theorem dX5_init_8 : decode cX5_init 8 = .ok (.dup, 1) := by decide +kernel
theorem dX5_init_9 : decode cX5_init 9 = .ok (.invokespecial 11, 3) := by decide +kernel
theorem dX5_init_12 : decode cX5_init 12 = .ok (.putfield 12, 3) := by decide +kernel
theorem dX5_init_15 : decode cX5_init 15 = .ok (.aload_n 0, 1) := by decide +kernel
theorem dX5_init_16 : decode cX5_init 16 = .ok (.new 18, 3) := by decide +kernel
theorem dX5_init_19 : decode cX5_init 19 = .ok (.dup, 1) := by decide +kernel
theorem dX5_init_20 : decode cX5_init 20 = .ok (.invokespecial 20, 3) := by decide +kernel
theorem dX5_init_23 : decode cX5_init 23 = .ok (.putfield 21, 3) := by decide +kernel
theorem dX5_init_26 : decode cX5_init 26 = .ok (.aload_n 0, 1) := by decide +kernel
theorem dX5_init_27 : decode cX5_init 27 = .ok (.new 25, 3) := by decide +kernel
theorem dX5_init_30 : decode cX5_init 30 = .ok (.dup, 1) := by decide +kernel
theorem dX5_init_31 : decode cX5_init 31 = .ok (.invokespecial 27, 3) := by decide +kernel
theorem dX5_init_34 : decode cX5_init 34 = .ok (.putfield 28, 3) := by decide +kernel
theorem dX5_init_37 : decode cX5_init 37 = .ok (.aload_n 0, 1) := by decide +kernel
theorem dX5_init_38 : decode cX5_init 38 = .ok (.new 32, 3) := by decide +kernel
theorem dX5_init_41 : decode cX5_init 41 = .ok (.dup, 1) := by decide +kernel
theorem dX5_init_42 : decode cX5_init 42 = .ok (.invokespecial 34, 3) := by decide +kernel
theorem dX5_init_45 : decode cX5_init 45 = .ok (.putfield 35, 3) := by decide +kernel
theorem dX5_init_48 : decode cX5_init 48 = .ok (.aload_n 0, 1) := by decide +kernel
theorem dX5_init_49 : decode cX5_init 49 = .ok (.iconst 0, 1) := by decide +kernel
theorem dX5_init_50 : decode cX5_init 50 = .ok (.putfield 39, 3) := by decide +kernel
theorem dX5_init_53 : decode cX5_init 53 = .ok (.aload_n 0, 1) := by decide +kernel
theorem dX5_init_54 : decode cX5_init 54 = .ok (.iconst (-1), 1) := by decide +kernel
theorem dX5_init_55 : decode cX5_init 55 = .ok (.putfield 43, 3) := by decide +kernel
theorem dX5_init_58 : decode cX5_init 58 = .ok (.aload_n 0, 1) := by decide +kernel
theorem dX5_init_59 : decode cX5_init 59 = .ok (.iconst 0, 1) := by decide +kernel
theorem dX5_init_60 : decode cX5_init 60 = .ok (.putfield 46, 3) := by decide +kernel
theorem dX5_init_63 : decode cX5_init 63 = .ok (.aload_n 0, 1) := by decide +kernel
theorem dX5_init_64 : decode cX5_init 64 = .ok (.iconst 1, 1) := by decide +kernel
theorem dX5_init_65 : decode cX5_init 65 = .ok (.putfield 49, 3) := by decide +kernel
theorem dX5_init_68 : decode cX5_init 68 = .ok (.aload_n 0, 1) := by decide +kernel
theorem dX5_init_69 : decode cX5_init 69 = .ok (.bipush 7, 2) := by decide +kernel
theorem dX5_init_71 : decode cX5_init 71 = .ok (.putfield 52, 3) := by decide +kernel
theorem dX5_init_74 : decode cX5_init 74 = .ok (.return_, 1) := by decide +kernel
theorem dX5_copyFrom_0 : decode cX5_copyFrom 0 = .ok (.aload_n 0, 1) := by decide +kernel
theorem dX5_copyFrom_1 : decode cX5_copyFrom 1 = .ok (.getfield 12, 3) := by decide +kernel
theorem dX5_copyFrom_4 : decode cX5_copyFrom 4 = .ok (.aload_n 1, 1) := by decide +kernel
theorem dX5_copyFrom_5 : decode cX5_copyFrom 5 = .ok (.getfield 12, 3) := by decide +kernel
theorem dX5_copyFrom_8 : decode cX5_copyFrom 8 = .ok (.invokevirtual 55, 3) := by decide +kernel
theorem dX5_copyFrom_11 : decode cX5_copyFrom 11 = .ok (.aload_n 0, 1) := by decide +kernel
theorem dX5_copyFrom_12 : decode cX5_copyFrom 12 = .ok (.getfield 21, 3) := by decide +kernel
theorem dX5_copyFrom_15 : decode cX5_copyFrom 15 = .ok (.aload_n 1, 1) := by decide +kernel
theorem dX5_copyFrom_16 : decode cX5_copyFrom 16 = .ok (.getfield 21, 3) := by decide +kernel
theorem dX5_copyFrom_19 : decode cX5_copyFrom 19 = .ok (.invokevirtual 59, 3) := by decide +kernel
theorem dX5_copyFrom_22 : decode cX5_copyFrom 22 = .ok (.aload_n 0, 1) := by decide +kernel
theorem dX5_copyFrom_23 : decode cX5_copyFrom 23 = .ok (.getfield 28, 3) := by decide +kernel
theorem dX5_copyFrom_26 : decode cX5_copyFrom 26 = .ok (.aload_n 1, 1) := by decide +kernel
theorem dX5_copyFrom_27 : decode cX5_copyFrom 27 = .ok (.getfield 28, 3) := by decide +kernel
theorem dX5_copyFrom_30 : decode cX5_copyFrom 30 = .ok (.invokevirtual 62, 3) := by decide +kernel
theorem dX5_copyFrom_33 : decode cX5_copyFrom 33 = .ok (.aload_n 0, 1) := by decide +kernel
theorem dX5_copyFrom_34 : decode cX5_copyFrom 34 = .ok (.getfield 35, 3) := by decide +kernel
theorem dX5_copyFrom_37 : decode cX5_copyFrom 37 = .ok (.aload_n 1, 1) := by decide +kernel
theorem dX5_copyFrom_38 : decode cX5_copyFrom 38 = .ok (.getfield 35, 3) := by decide +kernel
theorem dX5_copyFrom_41 : decode cX5_copyFrom 41 = .ok (.invokevirtual 65, 3) := by decide +kernel
theorem dX5_copyFrom_44 : decode cX5_copyFrom 44 = .ok (.aload_n 0, 1) := by decide +kernel
theorem dX5_copyFrom_45 : decode cX5_copyFrom 45 = .ok (.aload_n 1, 1) := by decide +kernel
theorem dX5_copyFrom_46 : decode cX5_copyFrom 46 = .ok (.getfield 39, 3) := by decide +kernel
theorem dX5_copyFrom_49 : decode cX5_copyFrom 49 = .ok (.putfield 39, 3) := by decide +kernel
theorem dX5_copyFrom_52 : decode cX5_copyFrom 52 = .ok (.aload_n 0, 1) := by decide +kernel
theorem dX5_copyFrom_53 : decode cX5_copyFrom 53 = .ok (.aload_n 1, 1) := by decide +kernel
theorem dX5_copyFrom_54 : decode cX5_copyFrom 54 = .ok (.getfield 43, 3) := by decide +kernel
theorem dX5_copyFrom_57 : decode cX5_copyFrom 57 = .ok (.putfield 43, 3) := by decide +kernel
theorem dX5_copyFrom_60 : decode cX5_copyFrom 60 = .ok (.aload_n 0, 1) := by decide +kernel
theorem dX5_copyFrom_61 : decode cX5_copyFrom 61 = .ok (.aload_n 1, 1) := by decide +kernel
theorem dX5_copyFrom_62 : decode cX5_copyFrom 62 = .ok (.getfield 46, 3) := by decide +kernel
theorem dX5_copyFrom_65 : decode cX5_copyFrom 65 = .ok (.putfield 46, 3) := by decide +kernel
theorem dX5_copyFrom_68 : decode cX5_copyFrom 68 = .ok (.aload_n 0, 1) := by decide +kernel
theorem dX5_copyFrom_69 : decode cX5_copyFrom 69 = .ok (.aload_n 1, 1) := by decide +kernel
theorem dX5_copyFrom_70 : decode cX5_copyFrom 70 = .ok (.getfield 49, 3) := by decide +kernel
theorem dX5_copyFrom_73 : decode cX5_copyFrom 73 = .ok (.putfield 49, 3) := by decide +kernel
theorem dX5_copyFrom_76 : decode cX5_copyFrom 76 = .ok (.aload_n 0, 1) := by decide +kernel
theorem dX5_copyFrom_77 : decode cX5_copyFrom 77 = .ok (.aload_n 1, 1) := by decide +kernel
theorem dX5_copyFrom_78 : decode cX5_copyFrom 78 = .ok (.getfield 52, 3) := by decide +kernel
theorem dX5_copyFrom_81 : decode cX5_copyFrom 81 = .ok (.putfield 52, 3) := by decide +kernel
theorem dX5_copyFrom_84 : decode cX5_copyFrom 84 = .ok (.return_, 1) := by decide +kernel
theorem dX5_canBegin_0 : decode cX5_canBegin 0 = .ok (.aload_n 0, 1) := by decide +kernel
theorem dX5_canBegin_1 : decode cX5_canBegin 1 = .ok (.getfield 28, 3) := by decide +kernel
theorem dX5_canBegin_4 : decode cX5_canBegin 4 = .ok (.getfield 68, 3) := by decide +kernel
theorem dX5_canBegin_7 : decode cX5_canBegin 7 = .ok (.ifCond .ne 38, 3) := by decide +kernel
theorem dX5_canBegin_10 : decode cX5_canBegin 10 = .ok (.aload_n 0, 1) := by decide +kernel
theorem dX5_canBegin_11 : decode cX5_canBegin 11 = .ok (.getfield 12, 3) := by decide +kernel
theorem dX5_canBegin_14 : decode cX5_canBegin 14 = .ok (.getfield 72, 3) := by decide +kernel
theorem dX5_canBegin_17 : decode cX5_canBegin 17 = .ok (.ifCond .le 28, 3) := by decide +kernel
theorem dX5_canBegin_20 : decode cX5_canBegin 20 = .ok (.aload_n 0, 1) := by decide +kernel
theorem dX5_canBegin_21 : decode cX5_canBegin 21 = .ok (.getfield 21, 3) := by decide +kernel
theorem dX5_canBegin_24 : decode cX5_canBegin 24 = .ok (.getfield 75, 3) := by decide +kernel
theorem dX5_canBegin_27 : decode cX5_canBegin 27 = .ok (.ifCond .le 18, 3) := by decide +kernel
theorem dX5_canBegin_30 : decode cX5_canBegin 30 = .ok (.aload_n 0, 1) := by decide +kernel
theorem dX5_canBegin_31 : decode cX5_canBegin 31 = .ok (.getfield 21, 3) := by decide +kernel
theorem dX5_canBegin_34 : decode cX5_canBegin 34 = .ok (.iload_n 1, 1) := by decide +kernel
theorem dX5_canBegin_35 : decode cX5_canBegin 35 = .ok (.invokevirtual 76, 3) := by decide +kernel
theorem dX5_canBegin_38 : decode cX5_canBegin 38 = .ok (.ifCond .eq 7, 3) := by decide +kernel
theorem dX5_canBegin_41 : decode cX5_canBegin 41 = .ok (.iconst 1, 1) := by decide +kernel
theorem dX5_canBegin_42 : decode cX5_canBegin 42 = .ok (.goto 4, 3) := by decide +kernel
theorem dX5_canBegin_45 : decode cX5_canBegin 45 = .ok (.iconst 0, 1) := by decide +kernel
theorem dX5_canBegin_46 : decode cX5_canBegin 46 = .ok (.ireturn, 1) := by decide +kernel
theorem dX5_beginRound_0 : decode cX5_beginRound 0 = .ok (.aload_n 0, 1) := by decide +kernel
theorem dX5_beginRound_1 : decode cX5_beginRound 1 = .ok (.aload_n 0, 1) := by decide +kernel
theorem dX5_beginRound_2 : decode cX5_beginRound 2 = .ok (.getfield 49, 3) := by decide +kernel
theorem dX5_beginRound_5 : decode cX5_beginRound 5 = .ok (.invokestatic 80, 3) := by decide +kernel
theorem dX5_beginRound_8 : decode cX5_beginRound 8 = .ok (.putfield 49, 3) := by decide +kernel
theorem dX5_beginRound_11 : decode cX5_beginRound 11 = .ok (.aload_n 0, 1) := by decide +kernel
theorem dX5_beginRound_12 : decode cX5_beginRound 12 = .ok (.aload_n 0, 1) := by decide +kernel
theorem dX5_beginRound_13 : decode cX5_beginRound 13 = .ok (.getfield 21, 3) := by decide +kernel
theorem dX5_beginRound_16 : decode cX5_beginRound 16 = .ok (.aload_n 0, 1) := by decide +kernel
theorem dX5_beginRound_17 : decode cX5_beginRound 17 = .ok (.getfield 43, 3) := by decide +kernel
theorem dX5_beginRound_20 : decode cX5_beginRound 20 = .ok (.invokevirtual 84, 3) := by decide +kernel
theorem dX5_beginRound_23 : decode cX5_beginRound 23 = .ok (.putfield 43, 3) := by decide +kernel
theorem dX5_beginRound_26 : decode cX5_beginRound 26 = .ok (.aload_n 0, 1) := by decide +kernel
theorem dX5_beginRound_27 : decode cX5_beginRound 27 = .ok (.dup, 1) := by decide +kernel
theorem dX5_beginRound_28 : decode cX5_beginRound 28 = .ok (.getfield 39, 3) := by decide +kernel
theorem dX5_beginRound_31 : decode cX5_beginRound 31 = .ok (.iconst 1, 1) := by decide +kernel
theorem dX5_beginRound_32 : decode cX5_beginRound 32 = .ok (.iadd, 1) := by decide +kernel
theorem dX5_beginRound_33 : decode cX5_beginRound 33 = .ok (.putfield 39, 3) := by decide +kernel
theorem dX5_beginRound_36 : decode cX5_beginRound 36 = .ok (.aload_n 0, 1) := by decide +kernel
theorem dX5_beginRound_37 : decode cX5_beginRound 37 = .ok (.getfield 28, 3) := by decide +kernel
theorem dX5_beginRound_40 : decode cX5_beginRound 40 = .ok (.iconst 1, 1) := by decide +kernel
theorem dX5_beginRound_41 : decode cX5_beginRound 41 = .ok (.putfield 68, 3) := by decide +kernel
theorem dX5_beginRound_44 : decode cX5_beginRound 44 = .ok (.aload_n 0, 1) := by decide +kernel
theorem dX5_beginRound_45 : decode cX5_beginRound 45 = .ok (.getfield 28, 3) := by decide +kernel
theorem dX5_beginRound_48 : decode cX5_beginRound 48 = .ok (.aload_n 0, 1) := by decide +kernel
theorem dX5_beginRound_49 : decode cX5_beginRound 49 = .ok (.getfield 12, 3) := by decide +kernel
theorem dX5_beginRound_52 : decode cX5_beginRound 52 = .ok (.aload_n 0, 1) := by decide +kernel
theorem dX5_beginRound_53 : decode cX5_beginRound 53 = .ok (.getfield 49, 3) := by decide +kernel
theorem dX5_beginRound_56 : decode cX5_beginRound 56 = .ok (.invokevirtual 87, 3) := by decide +kernel
theorem dX5_beginRound_59 : decode cX5_beginRound 59 = .ok (.putfield 90, 3) := by decide +kernel
theorem dX5_beginRound_62 : decode cX5_beginRound 62 = .ok (.aload_n 0, 1) := by decide +kernel
theorem dX5_beginRound_63 : decode cX5_beginRound 63 = .ok (.getfield 28, 3) := by decide +kernel
theorem dX5_beginRound_66 : decode cX5_beginRound 66 = .ok (.iload_n 1, 1) := by decide +kernel
theorem dX5_beginRound_67 : decode cX5_beginRound 67 = .ok (.putfield 93, 3) := by decide +kernel
theorem dX5_beginRound_70 : decode cX5_beginRound 70 = .ok (.aload_n 0, 1) := by decide +kernel
theorem dX5_beginRound_71 : decode cX5_beginRound 71 = .ok (.getfield 28, 3) := by decide +kernel
theorem dX5_beginRound_74 : decode cX5_beginRound 74 = .ok (.aload_n 0, 1) := by decide +kernel
theorem dX5_beginRound_75 : decode cX5_beginRound 75 = .ok (.getfield 43, 3) := by decide +kernel
theorem dX5_beginRound_78 : decode cX5_beginRound 78 = .ok (.putfield 96, 3) := by decide +kernel
theorem dX5_beginRound_81 : decode cX5_beginRound 81 = .ok (.aload_n 0, 1) := by decide +kernel
theorem dX5_beginRound_82 : decode cX5_beginRound 82 = .ok (.getfield 28, 3) := by decide +kernel
theorem dX5_beginRound_85 : decode cX5_beginRound 85 = .ok (.iload_n 1, 1) := by decide +kernel
theorem dX5_beginRound_86 : decode cX5_beginRound 86 = .ok (.aload_n 0, 1) := by decide +kernel
theorem dX5_beginRound_87 : decode cX5_beginRound 87 = .ok (.getfield 21, 3) := by decide +kernel
theorem dX5_beginRound_90 : decode cX5_beginRound 90 = .ok (.getfield 75, 3) := by decide +kernel
theorem dX5_beginRound_93 : decode cX5_beginRound 93 = .ok (.imul, 1) := by decide +kernel
theorem dX5_beginRound_94 : decode cX5_beginRound 94 = .ok (.putfield 99, 3) := by decide +kernel
theorem dX5_beginRound_97 : decode cX5_beginRound 97 = .ok (.aload_n 0, 1) := by decide +kernel
theorem dX5_beginRound_98 : decode cX5_beginRound 98 = .ok (.getfield 28, 3) := by decide +kernel
theorem dX5_beginRound_101 : decode cX5_beginRound 101 = .ok (.iconst 0, 1) := by decide +kernel
theorem dX5_beginRound_102 : decode cX5_beginRound 102 = .ok (.putfield 102, 3) := by decide +kernel
theorem dX5_beginRound_105 : decode cX5_beginRound 105 = .ok (.aload_n 0, 1) := by decide +kernel
theorem dX5_beginRound_106 : decode cX5_beginRound 106 = .ok (.getfield 28, 3) := by decide +kernel
theorem dX5_beginRound_109 : decode cX5_beginRound 109 = .ok (.iconst 0, 1) := by decide +kernel
theorem dX5_beginRound_110 : decode cX5_beginRound 110 = .ok (.putfield 105, 3) := by decide +kernel
theorem dX5_beginRound_113 : decode cX5_beginRound 113 = .ok (.aload_n 0, 1) := by decide +kernel
theorem dX5_beginRound_114 : decode cX5_beginRound 114 = .ok (.getfield 21, 3) := by decide +kernel
theorem dX5_beginRound_117 : decode cX5_beginRound 117 = .ok (.iload_n 1, 1) := by decide +kernel
theorem dX5_beginRound_118 : decode cX5_beginRound 118 = .ok (.invokevirtual 108, 3) := by decide +kernel
theorem dX5_beginRound_121 : decode cX5_beginRound 121 = .ok (.aload_n 0, 1) := by decide +kernel
theorem dX5_beginRound_122 : decode cX5_beginRound 122 = .ok (.getfield 12, 3) := by decide +kernel
theorem dX5_beginRound_125 : decode cX5_beginRound 125 = .ok (.getfield 112, 3) := by decide +kernel
theorem dX5_beginRound_128 : decode cX5_beginRound 128 = .ok (.aload_n 0, 1) := by decide +kernel
theorem dX5_beginRound_129 : decode cX5_beginRound 129 = .ok (.getfield 28, 3) := by decide +kernel
theorem dX5_beginRound_132 : decode cX5_beginRound 132 = .ok (.getfield 90, 3) := by decide +kernel
theorem dX5_beginRound_135 : decode cX5_beginRound 135 = .ok (.iconst 1, 1) := by decide +kernel
theorem dX5_beginRound_136 : decode cX5_beginRound 136 = .ok (.invokevirtual 116, 3) := by decide +kernel
theorem dX5_beginRound_139 : decode cX5_beginRound 139 = .ok (.return_, 1) := by decide +kernel
theorem dX5_guessLetter_0 : decode cX5_guessLetter 0 = .ok (.aload_n 0, 1) := by decide +kernel
theorem dX5_guessLetter_1 : decode cX5_guessLetter 1 = .ok (.getfield 28, 3) := by decide +kernel
theorem dX5_guessLetter_4 : decode cX5_guessLetter 4 = .ok (.getfield 96, 3) := by decide +kernel
theorem dX5_guessLetter_7 : decode cX5_guessLetter 7 = .ok (.istore_n 2, 1) := by decide +kernel
theorem dX5_guessLetter_8 : decode cX5_guessLetter 8 = .ok (.aload_n 0, 1) := by decide +kernel
theorem dX5_guessLetter_9 : decode cX5_guessLetter 9 = .ok (.getfield 21, 3) := by decide +kernel
theorem dX5_guessLetter_12 : decode cX5_guessLetter 12 = .ok (.getfield 122, 3) := by decide +kernel
theorem dX5_guessLetter_15 : decode cX5_guessLetter 15 = .ok (.iload_n 2, 1) := by decide +kernel
theorem dX5_guessLetter_16 : decode cX5_guessLetter 16 = .ok (.invokevirtual 125, 3) := by decide +kernel
theorem dX5_guessLetter_19 : decode cX5_guessLetter 19 = .ok (.iload_n 1, 1) := by decide +kernel
theorem dX5_guessLetter_20 : decode cX5_guessLetter 20 = .ok (.if_icmp .ne 7, 3) := by decide +kernel
theorem dX5_guessLetter_23 : decode cX5_guessLetter 23 = .ok (.iconst 1, 1) := by decide +kernel
theorem dX5_guessLetter_24 : decode cX5_guessLetter 24 = .ok (.goto 4, 3) := by decide +kernel
theorem dX5_guessLetter_27 : decode cX5_guessLetter 27 = .ok (.iconst 0, 1) := by decide +kernel
theorem dX5_guessLetter_28 : decode cX5_guessLetter 28 = .ok (.istore_n 3, 1) := by decide +kernel
theorem dX5_guessLetter_29 : decode cX5_guessLetter 29 = .ok (.aload_n 0, 1) := by decide +kernel
theorem dX5_guessLetter_30 : decode cX5_guessLetter 30 = .ok (.getfield 21, 3) := by decide +kernel
theorem dX5_guessLetter_33 : decode cX5_guessLetter 33 = .ok (.iload_n 2, 1) := by decide +kernel
theorem dX5_guessLetter_34 : decode cX5_guessLetter 34 = .ok (.invokevirtual 128, 3) := by decide +kernel
theorem dX5_guessLetter_37 : decode cX5_guessLetter 37 = .ok (.aload_n 0, 1) := by decide +kernel
theorem dX5_guessLetter_38 : decode cX5_guessLetter 38 = .ok (.getfield 28, 3) := by decide +kernel
theorem dX5_guessLetter_41 : decode cX5_guessLetter 41 = .ok (.dup, 1) := by decide +kernel
theorem dX5_guessLetter_42 : decode cX5_guessLetter 42 = .ok (.getfield 105, 3) := by decide +kernel
theorem dX5_guessLetter_45 : decode cX5_guessLetter 45 = .ok (.iconst 1, 1) := by decide +kernel
theorem dX5_guessLetter_46 : decode cX5_guessLetter 46 = .ok (.iload_n 1, 1) := by decide +kernel
theorem dX5_guessLetter_47 : decode cX5_guessLetter 47 = .ok (.ishl, 1) := by decide +kernel
theorem dX5_guessLetter_48 : decode cX5_guessLetter 48 = .ok (.ior, 1) := by decide +kernel
theorem dX5_guessLetter_49 : decode cX5_guessLetter 49 = .ok (.putfield 105, 3) := by decide +kernel
theorem dX5_guessLetter_52 : decode cX5_guessLetter 52 = .ok (.aload_n 0, 1) := by decide +kernel
theorem dX5_guessLetter_53 : decode cX5_guessLetter 53 = .ok (.getfield 12, 3) := by decide +kernel
theorem dX5_guessLetter_56 : decode cX5_guessLetter 56 = .ok (.aload_n 0, 1) := by decide +kernel
theorem dX5_guessLetter_57 : decode cX5_guessLetter 57 = .ok (.getfield 28, 3) := by decide +kernel
theorem dX5_guessLetter_60 : decode cX5_guessLetter 60 = .ok (.getfield 90, 3) := by decide +kernel
theorem dX5_guessLetter_63 : decode cX5_guessLetter 63 = .ok (.iload_n 1, 1) := by decide +kernel
theorem dX5_guessLetter_64 : decode cX5_guessLetter 64 = .ok (.invokevirtual 131, 3) := by decide +kernel
theorem dX5_guessLetter_67 : decode cX5_guessLetter 67 = .ok (.invokestatic 135, 3) := by decide +kernel
theorem dX5_guessLetter_70 : decode cX5_guessLetter 70 = .ok (.istore 4, 2) := by decide +kernel
theorem dX5_guessLetter_72 : decode cX5_guessLetter 72 = .ok (.iload 4, 2) := by decide +kernel
theorem dX5_guessLetter_74 : decode cX5_guessLetter 74 = .ok (.ifCond .ne 9, 3) := by decide +kernel
theorem dX5_guessLetter_77 : decode cX5_guessLetter 77 = .ok (.aload_n 0, 1) := by decide +kernel
theorem dX5_guessLetter_78 : decode cX5_guessLetter 78 = .ok (.invokevirtual 140, 3) := by decide +kernel
theorem dX5_guessLetter_81 : decode cX5_guessLetter 81 = .ok (.iconst 0, 1) := by decide +kernel
theorem dX5_guessLetter_82 : decode cX5_guessLetter 82 = .ok (.ireturn, 1) := by decide +kernel
theorem dX5_guessLetter_83 : decode cX5_guessLetter 83 = .ok (.aload_n 0, 1) := by decide +kernel
theorem dX5_guessLetter_84 : decode cX5_guessLetter 84 = .ok (.getfield 21, 3) := by decide +kernel
theorem dX5_guessLetter_87 : decode cX5_guessLetter 87 = .ok (.getfield 143, 3) := by decide +kernel
theorem dX5_guessLetter_90 : decode cX5_guessLetter 90 = .ok (.iload_n 2, 1) := by decide +kernel
theorem dX5_guessLetter_91 : decode cX5_guessLetter 91 = .ok (.iconst 1, 1) := by decide +kernel
theorem dX5_guessLetter_92 : decode cX5_guessLetter 92 = .ok (.invokevirtual 116, 3) := by decide +kernel
theorem dX5_guessLetter_95 : decode cX5_guessLetter 95 = .ok (.aload_n 0, 1) := by decide +kernel
theorem dX5_guessLetter_96 : decode cX5_guessLetter 96 = .ok (.iload_n 2, 1) := by decide +kernel
theorem dX5_guessLetter_97 : decode cX5_guessLetter 97 = .ok (.iload 4, 2) := by decide +kernel
theorem dX5_guessLetter_99 : decode cX5_guessLetter 99 = .ok (.iload_n 3, 1) := by decide +kernel
theorem dX5_guessLetter_100 : decode cX5_guessLetter 100 = .ok (.invokevirtual 146, 3) := by decide +kernel
theorem dX5_guessLetter_103 : decode cX5_guessLetter 103 = .ok (.aload_n 0, 1) := by decide +kernel
theorem dX5_guessLetter_104 : decode cX5_guessLetter 104 = .ok (.invokevirtual 150, 3) := by decide +kernel
theorem dX5_guessLetter_107 : decode cX5_guessLetter 107 = .ok (.aload_n 0, 1) := by decide +kernel
theorem dX5_guessLetter_108 : decode cX5_guessLetter 108 = .ok (.getfield 12, 3) := by decide +kernel
theorem dX5_guessLetter_111 : decode cX5_guessLetter 111 = .ok (.getfield 154, 3) := by decide +kernel
theorem dX5_guessLetter_114 : decode cX5_guessLetter 114 = .ok (.aload_n 0, 1) := by decide +kernel
theorem dX5_guessLetter_115 : decode cX5_guessLetter 115 = .ok (.getfield 28, 3) := by decide +kernel
theorem dX5_guessLetter_118 : decode cX5_guessLetter 118 = .ok (.getfield 90, 3) := by decide +kernel
theorem dX5_guessLetter_121 : decode cX5_guessLetter 121 = .ok (.invokevirtual 125, 3) := by decide +kernel
theorem dX5_guessLetter_124 : decode cX5_guessLetter 124 = .ok (.if_icmp .ne 7, 3) := by decide +kernel
theorem dX5_guessLetter_127 : decode cX5_guessLetter 127 = .ok (.aload_n 0, 1) := by decide +kernel
theorem dX5_guessLetter_128 : decode cX5_guessLetter 128 = .ok (.invokevirtual 157, 3) := by decide +kernel
theorem dX5_guessLetter_131 : decode cX5_guessLetter 131 = .ok (.iload 4, 2) := by decide +kernel
theorem dX5_guessLetter_133 : decode cX5_guessLetter 133 = .ok (.ireturn, 1) := by decide +kernel
theorem dX5_payForPlaces_0 : decode cX5_payForPlaces 0 = .ok (.aload_n 0, 1) := by decide +kernel
theorem dX5_payForPlaces_1 : decode cX5_payForPlaces 1 = .ok (.getfield 28, 3) := by decide +kernel
theorem dX5_payForPlaces_4 : decode cX5_payForPlaces 4 = .ok (.iload_n 2, 1) := by decide +kernel
theorem dX5_payForPlaces_5 : decode cX5_payForPlaces 5 = .ok (.invokevirtual 160, 3) := by decide +kernel
theorem dX5_payForPlaces_8 : decode cX5_payForPlaces 8 = .ok (.istore 4, 2) := by decide +kernel
theorem dX5_payForPlaces_10 : decode cX5_payForPlaces 10 = .ok (.iload_n 3, 1) := by decide +kernel
theorem dX5_payForPlaces_11 : decode cX5_payForPlaces 11 = .ok (.ifCond .eq 10, 3) := by decide +kernel
theorem dX5_payForPlaces_14 : decode cX5_payForPlaces 14 = .ok (.iload 4, 2) := by decide +kernel
theorem dX5_payForPlaces_16 : decode cX5_payForPlaces 16 = .ok (.iconst 2, 1) := by decide +kernel
theorem dX5_payForPlaces_17 : decode cX5_payForPlaces 17 = .ok (.idiv, 1) := by decide +kernel
theorem dX5_payForPlaces_18 : decode cX5_payForPlaces 18 = .ok (.goto 4, 3) := by decide +kernel
theorem dX5_payForPlaces_21 : decode cX5_payForPlaces 21 = .ok (.iconst 0, 1) := by decide +kernel
theorem dX5_payForPlaces_22 : decode cX5_payForPlaces 22 = .ok (.istore 5, 2) := by decide +kernel
theorem dX5_payForPlaces_24 : decode cX5_payForPlaces 24 = .ok (.aload_n 0, 1) := by decide +kernel
theorem dX5_payForPlaces_25 : decode cX5_payForPlaces 25 = .ok (.getfield 21, 3) := by decide +kernel
theorem dX5_payForPlaces_28 : decode cX5_payForPlaces 28 = .ok (.getfield 163, 3) := by decide +kernel
theorem dX5_payForPlaces_31 : decode cX5_payForPlaces 31 = .ok (.iload_n 1, 1) := by decide +kernel
theorem dX5_payForPlaces_32 : decode cX5_payForPlaces 32 = .ok (.iload 4, 2) := by decide +kernel
theorem dX5_payForPlaces_34 : decode cX5_payForPlaces 34 = .ok (.iload 5, 2) := by decide +kernel
theorem dX5_payForPlaces_36 : decode cX5_payForPlaces 36 = .ok (.isub, 1) := by decide +kernel
theorem dX5_payForPlaces_37 : decode cX5_payForPlaces 37 = .ok (.invokevirtual 116, 3) := by decide +kernel
theorem dX5_payForPlaces_40 : decode cX5_payForPlaces 40 = .ok (.aload_n 0, 1) := by decide +kernel
theorem dX5_payForPlaces_41 : decode cX5_payForPlaces 41 = .ok (.getfield 21, 3) := by decide +kernel
theorem dX5_payForPlaces_44 : decode cX5_payForPlaces 44 = .ok (.getfield 163, 3) := by decide +kernel
theorem dX5_payForPlaces_47 : decode cX5_payForPlaces 47 = .ok (.aload_n 0, 1) := by decide +kernel
theorem dX5_payForPlaces_48 : decode cX5_payForPlaces 48 = .ok (.getfield 21, 3) := by decide +kernel
theorem dX5_payForPlaces_51 : decode cX5_payForPlaces 51 = .ok (.getfield 166, 3) := by decide +kernel
theorem dX5_payForPlaces_54 : decode cX5_payForPlaces 54 = .ok (.iload_n 1, 1) := by decide +kernel
theorem dX5_payForPlaces_55 : decode cX5_payForPlaces 55 = .ok (.invokevirtual 125, 3) := by decide +kernel
theorem dX5_payForPlaces_58 : decode cX5_payForPlaces 58 = .ok (.iload 5, 2) := by decide +kernel
theorem dX5_payForPlaces_60 : decode cX5_payForPlaces 60 = .ok (.invokevirtual 116, 3) := by decide +kernel
theorem dX5_payForPlaces_63 : decode cX5_payForPlaces 63 = .ok (.return_, 1) := by decide +kernel
theorem dX5_tellWord_0 : decode cX5_tellWord 0 = .ok (.iload_n 1, 1) := by decide +kernel
theorem dX5_tellWord_1 : decode cX5_tellWord 1 = .ok (.aload_n 0, 1) := by decide +kernel
theorem dX5_tellWord_2 : decode cX5_tellWord 2 = .ok (.getfield 28, 3) := by decide +kernel
theorem dX5_tellWord_5 : decode cX5_tellWord 5 = .ok (.getfield 90, 3) := by decide +kernel
theorem dX5_tellWord_8 : decode cX5_tellWord 8 = .ok (.if_icmp .eq 9, 3) := by decide +kernel
theorem dX5_tellWord_11 : decode cX5_tellWord 11 = .ok (.aload_n 0, 1) := by decide +kernel
theorem dX5_tellWord_12 : decode cX5_tellWord 12 = .ok (.invokevirtual 140, 3) := by decide +kernel
theorem dX5_tellWord_15 : decode cX5_tellWord 15 = .ok (.iconst 0, 1) := by decide +kernel
theorem dX5_tellWord_16 : decode cX5_tellWord 16 = .ok (.ireturn, 1) := by decide +kernel
theorem dX5_tellWord_17 : decode cX5_tellWord 17 = .ok (.aload_n 0, 1) := by decide +kernel
theorem dX5_tellWord_18 : decode cX5_tellWord 18 = .ok (.invokevirtual 157, 3) := by decide +kernel
theorem dX5_tellWord_21 : decode cX5_tellWord 21 = .ok (.iconst 1, 1) := by decide +kernel
theorem dX5_tellWord_22 : decode cX5_tellWord 22 = .ok (.ireturn, 1) := by decide +kernel
theorem dX5_countMiss_0 : decode cX5_countMiss 0 = .ok (.aload_n 0, 1) := by decide +kernel
theorem dX5_countMiss_1 : decode cX5_countMiss 1 = .ok (.getfield 21, 3) := by decide +kernel
theorem dX5_countMiss_4 : decode cX5_countMiss 4 = .ok (.getfield 169, 3) := by decide +kernel
theorem dX5_countMiss_7 : decode cX5_countMiss 7 = .ok (.aload_n 0, 1) := by decide +kernel
theorem dX5_countMiss_8 : decode cX5_countMiss 8 = .ok (.getfield 28, 3) := by decide +kernel
theorem dX5_countMiss_11 : decode cX5_countMiss 11 = .ok (.getfield 96, 3) := by decide +kernel
theorem dX5_countMiss_14 : decode cX5_countMiss 14 = .ok (.iconst 1, 1) := by decide +kernel
theorem dX5_countMiss_15 : decode cX5_countMiss 15 = .ok (.invokevirtual 116, 3) := by decide +kernel
theorem dX5_countMiss_18 : decode cX5_countMiss 18 = .ok (.aload_n 0, 1) := by decide +kernel
theorem dX5_countMiss_19 : decode cX5_countMiss 19 = .ok (.getfield 28, 3) := by decide +kernel
theorem dX5_countMiss_22 : decode cX5_countMiss 22 = .ok (.dup, 1) := by decide +kernel
theorem dX5_countMiss_23 : decode cX5_countMiss 23 = .ok (.getfield 102, 3) := by decide +kernel
theorem dX5_countMiss_26 : decode cX5_countMiss 26 = .ok (.iconst 1, 1) := by decide +kernel
theorem dX5_countMiss_27 : decode cX5_countMiss 27 = .ok (.iadd, 1) := by decide +kernel
theorem dX5_countMiss_28 : decode cX5_countMiss 28 = .ok (.putfield 102, 3) := by decide +kernel
theorem dX5_countMiss_31 : decode cX5_countMiss 31 = .ok (.aload_n 0, 1) := by decide +kernel
theorem dX5_countMiss_32 : decode cX5_countMiss 32 = .ok (.getfield 28, 3) := by decide +kernel
theorem dX5_countMiss_35 : decode cX5_countMiss 35 = .ok (.getfield 102, 3) := by decide +kernel
theorem dX5_countMiss_38 : decode cX5_countMiss 38 = .ok (.aload_n 0, 1) := by decide +kernel
theorem dX5_countMiss_39 : decode cX5_countMiss 39 = .ok (.getfield 52, 3) := by decide +kernel
theorem dX5_countMiss_42 : decode cX5_countMiss 42 = .ok (.if_icmp .lt 27, 3) := by decide +kernel
theorem dX5_countMiss_45 : decode cX5_countMiss 45 = .ok (.aload_n 0, 1) := by decide +kernel
theorem dX5_countMiss_46 : decode cX5_countMiss 46 = .ok (.dup, 1) := by decide +kernel
theorem dX5_countMiss_47 : decode cX5_countMiss 47 = .ok (.getfield 46, 3) := by decide +kernel
theorem dX5_countMiss_50 : decode cX5_countMiss 50 = .ok (.aload_n 0, 1) := by decide +kernel
theorem dX5_countMiss_51 : decode cX5_countMiss 51 = .ok (.getfield 28, 3) := by decide +kernel
theorem dX5_countMiss_54 : decode cX5_countMiss 54 = .ok (.getfield 99, 3) := by decide +kernel
theorem dX5_countMiss_57 : decode cX5_countMiss 57 = .ok (.iadd, 1) := by decide +kernel
theorem dX5_countMiss_58 : decode cX5_countMiss 58 = .ok (.putfield 46, 3) := by decide +kernel
theorem dX5_countMiss_61 : decode cX5_countMiss 61 = .ok (.aload_n 0, 1) := by decide +kernel
theorem dX5_countMiss_62 : decode cX5_countMiss 62 = .ok (.iconst 5, 1) := by decide +kernel
theorem dX5_countMiss_63 : decode cX5_countMiss 63 = .ok (.invokevirtual 171, 3) := by decide +kernel
theorem dX5_countMiss_66 : decode cX5_countMiss 66 = .ok (.goto 24, 3) := by decide +kernel
theorem dX5_countMiss_69 : decode cX5_countMiss 69 = .ok (.aload_n 0, 1) := by decide +kernel
theorem dX5_countMiss_70 : decode cX5_countMiss 70 = .ok (.getfield 28, 3) := by decide +kernel
theorem dX5_countMiss_73 : decode cX5_countMiss 73 = .ok (.aload_n 0, 1) := by decide +kernel
theorem dX5_countMiss_74 : decode cX5_countMiss 74 = .ok (.getfield 21, 3) := by decide +kernel
theorem dX5_countMiss_77 : decode cX5_countMiss 77 = .ok (.aload_n 0, 1) := by decide +kernel
theorem dX5_countMiss_78 : decode cX5_countMiss 78 = .ok (.getfield 28, 3) := by decide +kernel
theorem dX5_countMiss_81 : decode cX5_countMiss 81 = .ok (.getfield 96, 3) := by decide +kernel
theorem dX5_countMiss_84 : decode cX5_countMiss 84 = .ok (.invokevirtual 84, 3) := by decide +kernel
theorem dX5_countMiss_87 : decode cX5_countMiss 87 = .ok (.putfield 96, 3) := by decide +kernel
theorem dX5_countMiss_90 : decode cX5_countMiss 90 = .ok (.return_, 1) := by decide +kernel
theorem dX5_winRound_0 : decode cX5_winRound 0 = .ok (.aload_n 0, 1) := by decide +kernel
theorem dX5_winRound_1 : decode cX5_winRound 1 = .ok (.getfield 21, 3) := by decide +kernel
theorem dX5_winRound_4 : decode cX5_winRound 4 = .ok (.getfield 163, 3) := by decide +kernel
theorem dX5_winRound_7 : decode cX5_winRound 7 = .ok (.aload_n 0, 1) := by decide +kernel
theorem dX5_winRound_8 : decode cX5_winRound 8 = .ok (.getfield 28, 3) := by decide +kernel
theorem dX5_winRound_11 : decode cX5_winRound 11 = .ok (.getfield 96, 3) := by decide +kernel
theorem dX5_winRound_14 : decode cX5_winRound 14 = .ok (.aload_n 0, 1) := by decide +kernel
theorem dX5_winRound_15 : decode cX5_winRound 15 = .ok (.getfield 28, 3) := by decide +kernel
theorem dX5_winRound_18 : decode cX5_winRound 18 = .ok (.getfield 99, 3) := by decide +kernel
theorem dX5_winRound_21 : decode cX5_winRound 21 = .ok (.invokevirtual 116, 3) := by decide +kernel
theorem dX5_winRound_24 : decode cX5_winRound 24 = .ok (.aload_n 0, 1) := by decide +kernel
theorem dX5_winRound_25 : decode cX5_winRound 25 = .ok (.getfield 21, 3) := by decide +kernel
theorem dX5_winRound_28 : decode cX5_winRound 28 = .ok (.getfield 174, 3) := by decide +kernel
theorem dX5_winRound_31 : decode cX5_winRound 31 = .ok (.aload_n 0, 1) := by decide +kernel
theorem dX5_winRound_32 : decode cX5_winRound 32 = .ok (.getfield 28, 3) := by decide +kernel
theorem dX5_winRound_35 : decode cX5_winRound 35 = .ok (.getfield 96, 3) := by decide +kernel
theorem dX5_winRound_38 : decode cX5_winRound 38 = .ok (.iconst 1, 1) := by decide +kernel
theorem dX5_winRound_39 : decode cX5_winRound 39 = .ok (.invokevirtual 116, 3) := by decide +kernel
theorem dX5_winRound_42 : decode cX5_winRound 42 = .ok (.aload_n 0, 1) := by decide +kernel
theorem dX5_winRound_43 : decode cX5_winRound 43 = .ok (.aload_n 0, 1) := by decide +kernel
theorem dX5_winRound_44 : decode cX5_winRound 44 = .ok (.getfield 28, 3) := by decide +kernel
theorem dX5_winRound_47 : decode cX5_winRound 47 = .ok (.getfield 96, 3) := by decide +kernel
theorem dX5_winRound_50 : decode cX5_winRound 50 = .ok (.invokevirtual 171, 3) := by decide +kernel
theorem dX5_winRound_53 : decode cX5_winRound 53 = .ok (.return_, 1) := by decide +kernel
theorem dX5_endRound_0 : decode cX5_endRound 0 = .ok (.aload_n 0, 1) := by decide +kernel
theorem dX5_endRound_1 : decode cX5_endRound 1 = .ok (.getfield 35, 3) := by decide +kernel
theorem dX5_endRound_4 : decode cX5_endRound 4 = .ok (.aload_n 0, 1) := by decide +kernel
theorem dX5_endRound_5 : decode cX5_endRound 5 = .ok (.getfield 28, 3) := by decide +kernel
theorem dX5_endRound_8 : decode cX5_endRound 8 = .ok (.iload_n 1, 1) := by decide +kernel
theorem dX5_endRound_9 : decode cX5_endRound 9 = .ok (.invokevirtual 177, 3) := by decide +kernel
theorem dX5_endRound_12 : decode cX5_endRound 12 = .ok (.aload_n 0, 1) := by decide +kernel
theorem dX5_endRound_13 : decode cX5_endRound 13 = .ok (.getfield 21, 3) := by decide +kernel
theorem dX5_endRound_16 : decode cX5_endRound 16 = .ok (.invokevirtual 181, 3) := by decide +kernel
theorem dX5_endRound_19 : decode cX5_endRound 19 = .ok (.aload_n 0, 1) := by decide +kernel
theorem dX5_endRound_20 : decode cX5_endRound 20 = .ok (.getfield 28, 3) := by decide +kernel
theorem dX5_endRound_23 : decode cX5_endRound 23 = .ok (.iconst 0, 1) := by decide +kernel
theorem dX5_endRound_24 : decode cX5_endRound 24 = .ok (.putfield 68, 3) := by decide +kernel
theorem dX5_endRound_27 : decode cX5_endRound 27 = .ok (.return_, 1) := by decide +kernel
theorem dX5_openPlaces_0 : decode cX5_openPlaces 0 = .ok (.iconst 0, 1) := by decide +kernel
theorem dX5_openPlaces_1 : decode cX5_openPlaces 1 = .ok (.istore_n 1, 1) := by decide +kernel
theorem dX5_openPlaces_2 : decode cX5_openPlaces 2 = .ok (.aload_n 0, 1) := by decide +kernel
theorem dX5_openPlaces_3 : decode cX5_openPlaces 3 = .ok (.getfield 12, 3) := by decide +kernel
theorem dX5_openPlaces_6 : decode cX5_openPlaces 6 = .ok (.getfield 154, 3) := by decide +kernel
theorem dX5_openPlaces_9 : decode cX5_openPlaces 9 = .ok (.aload_n 0, 1) := by decide +kernel
theorem dX5_openPlaces_10 : decode cX5_openPlaces 10 = .ok (.getfield 28, 3) := by decide +kernel
theorem dX5_openPlaces_13 : decode cX5_openPlaces 13 = .ok (.getfield 90, 3) := by decide +kernel
theorem dX5_openPlaces_16 : decode cX5_openPlaces 16 = .ok (.invokevirtual 125, 3) := by decide +kernel
theorem dX5_openPlaces_19 : decode cX5_openPlaces 19 = .ok (.istore_n 2, 1) := by decide +kernel
theorem dX5_openPlaces_20 : decode cX5_openPlaces 20 = .ok (.iconst 0, 1) := by decide +kernel
theorem dX5_openPlaces_21 : decode cX5_openPlaces 21 = .ok (.istore_n 3, 1) := by decide +kernel
theorem dX5_openPlaces_22 : decode cX5_openPlaces 22 = .ok (.iload_n 3, 1) := by decide +kernel
theorem dX5_openPlaces_23 : decode cX5_openPlaces 23 = .ok (.iload_n 2, 1) := by decide +kernel
theorem dX5_openPlaces_24 : decode cX5_openPlaces 24 = .ok (.if_icmp .ge 40, 3) := by decide +kernel
theorem dX5_openPlaces_27 : decode cX5_openPlaces 27 = .ok (.aload_n 0, 1) := by decide +kernel
theorem dX5_openPlaces_28 : decode cX5_openPlaces 28 = .ok (.getfield 28, 3) := by decide +kernel
theorem dX5_openPlaces_31 : decode cX5_openPlaces 31 = .ok (.getfield 105, 3) := by decide +kernel
theorem dX5_openPlaces_34 : decode cX5_openPlaces 34 = .ok (.aload_n 0, 1) := by decide +kernel
theorem dX5_openPlaces_35 : decode cX5_openPlaces 35 = .ok (.getfield 12, 3) := by decide +kernel
theorem dX5_openPlaces_38 : decode cX5_openPlaces 38 = .ok (.aload_n 0, 1) := by decide +kernel
theorem dX5_openPlaces_39 : decode cX5_openPlaces 39 = .ok (.getfield 28, 3) := by decide +kernel
theorem dX5_openPlaces_42 : decode cX5_openPlaces 42 = .ok (.getfield 90, 3) := by decide +kernel
theorem dX5_openPlaces_45 : decode cX5_openPlaces 45 = .ok (.iload_n 3, 1) := by decide +kernel
theorem dX5_openPlaces_46 : decode cX5_openPlaces 46 = .ok (.invokevirtual 184, 3) := by decide +kernel
theorem dX5_openPlaces_49 : decode cX5_openPlaces 49 = .ok (.invokestatic 187, 3) := by decide +kernel
theorem dX5_openPlaces_52 : decode cX5_openPlaces 52 = .ok (.ifCond .eq 6, 3) := by decide +kernel
theorem dX5_openPlaces_55 : decode cX5_openPlaces 55 = .ok (.iinc 1 1, 3) := by decide +kernel
theorem dX5_openPlaces_58 : decode cX5_openPlaces 58 = .ok (.iinc 3 1, 3) := by decide +kernel
theorem dX5_openPlaces_61 : decode cX5_openPlaces 61 = .ok (.goto (-39), 3) := by decide +kernel
theorem dX5_openPlaces_64 : decode cX5_openPlaces 64 = .ok (.iload_n 1, 1) := by decide +kernel
theorem dX5_openPlaces_65 : decode cX5_openPlaces 65 = .ok (.ireturn, 1) := by decide +kernel
theorem dX5_fitting_0 : decode cX5_fitting 0 = .ok (.aload_n 0, 1) := by decide +kernel
theorem dX5_fitting_1 : decode cX5_fitting 1 = .ok (.getfield 12, 3) := by decide +kernel
theorem dX5_fitting_4 : decode cX5_fitting 4 = .ok (.aload_n 0, 1) := by decide +kernel
theorem dX5_fitting_5 : decode cX5_fitting 5 = .ok (.getfield 28, 3) := by decide +kernel
theorem dX5_fitting_8 : decode cX5_fitting 8 = .ok (.getfield 90, 3) := by decide +kernel
theorem dX5_fitting_11 : decode cX5_fitting 11 = .ok (.aload_n 0, 1) := by decide +kernel
theorem dX5_fitting_12 : decode cX5_fitting 12 = .ok (.getfield 28, 3) := by decide +kernel
theorem dX5_fitting_15 : decode cX5_fitting 15 = .ok (.getfield 105, 3) := by decide +kernel
theorem dX5_fitting_18 : decode cX5_fitting 18 = .ok (.invokevirtual 191, 3) := by decide +kernel
theorem dX5_fitting_21 : decode cX5_fitting 21 = .ok (.ireturn, 1) := by decide +kernel
theorem dX5_likeliestLetter_0 : decode cX5_likeliestLetter 0 = .ok (.iconst 0, 1) := by decide +kernel
theorem dX5_likeliestLetter_1 : decode cX5_likeliestLetter 1 = .ok (.istore_n 2, 1) := by decide +kernel
theorem dX5_likeliestLetter_2 : decode cX5_likeliestLetter 2 = .ok (.iconst (-1), 1) := by decide +kernel
theorem dX5_likeliestLetter_3 : decode cX5_likeliestLetter 3 = .ok (.istore_n 3, 1) := by decide +kernel
theorem dX5_likeliestLetter_4 : decode cX5_likeliestLetter 4 = .ok (.iconst 0, 1) := by decide +kernel
theorem dX5_likeliestLetter_5 : decode cX5_likeliestLetter 5 = .ok (.istore 4, 2) := by decide +kernel
theorem dX5_likeliestLetter_7 : decode cX5_likeliestLetter 7 = .ok (.iload 4, 2) := by decide +kernel
theorem dX5_likeliestLetter_9 : decode cX5_likeliestLetter 9 = .ok (.bipush 26, 2) := by decide +kernel
theorem dX5_likeliestLetter_11 : decode cX5_likeliestLetter 11 = .ok (.if_icmp .ge 49, 3) := by decide +kernel
theorem dX5_likeliestLetter_14 : decode cX5_likeliestLetter 14 = .ok (.aload_n 0, 1) := by decide +kernel
theorem dX5_likeliestLetter_15 : decode cX5_likeliestLetter 15 = .ok (.getfield 28, 3) := by decide +kernel
theorem dX5_likeliestLetter_18 : decode cX5_likeliestLetter 18 = .ok (.iload 4, 2) := by decide +kernel
theorem dX5_likeliestLetter_20 : decode cX5_likeliestLetter 20 = .ok (.invokevirtual 194, 3) := by decide +kernel
theorem dX5_likeliestLetter_23 : decode cX5_likeliestLetter 23 = .ok (.ifCond .eq 16, 3) := by decide +kernel
theorem dX5_likeliestLetter_26 : decode cX5_likeliestLetter 26 = .ok (.aload_n 0, 1) := by decide +kernel
theorem dX5_likeliestLetter_27 : decode cX5_likeliestLetter 27 = .ok (.getfield 12, 3) := by decide +kernel
theorem dX5_likeliestLetter_30 : decode cX5_likeliestLetter 30 = .ok (.iload_n 1, 1) := by decide +kernel
theorem dX5_likeliestLetter_31 : decode cX5_likeliestLetter 31 = .ok (.iload 4, 2) := by decide +kernel
theorem dX5_likeliestLetter_33 : decode cX5_likeliestLetter 33 = .ok (.invokevirtual 197, 3) := by decide +kernel
theorem dX5_likeliestLetter_36 : decode cX5_likeliestLetter 36 = .ok (.goto 4, 3) := by decide +kernel
theorem dX5_likeliestLetter_39 : decode cX5_likeliestLetter 39 = .ok (.iconst (-1), 1) := by decide +kernel
theorem dX5_likeliestLetter_40 : decode cX5_likeliestLetter 40 = .ok (.istore 5, 2) := by decide +kernel
theorem dX5_likeliestLetter_42 : decode cX5_likeliestLetter 42 = .ok (.iload 5, 2) := by decide +kernel
theorem dX5_likeliestLetter_44 : decode cX5_likeliestLetter 44 = .ok (.iload_n 3, 1) := by decide +kernel
theorem dX5_likeliestLetter_45 : decode cX5_likeliestLetter 45 = .ok (.if_icmp .le 9, 3) := by decide +kernel
theorem dX5_likeliestLetter_48 : decode cX5_likeliestLetter 48 = .ok (.iload 4, 2) := by decide +kernel
theorem dX5_likeliestLetter_50 : decode cX5_likeliestLetter 50 = .ok (.istore_n 2, 1) := by decide +kernel
theorem dX5_likeliestLetter_51 : decode cX5_likeliestLetter 51 = .ok (.iload 5, 2) := by decide +kernel
theorem dX5_likeliestLetter_53 : decode cX5_likeliestLetter 53 = .ok (.istore_n 3, 1) := by decide +kernel
theorem dX5_likeliestLetter_54 : decode cX5_likeliestLetter 54 = .ok (.iinc 4 1, 3) := by decide +kernel
theorem dX5_likeliestLetter_57 : decode cX5_likeliestLetter 57 = .ok (.goto (-50), 3) := by decide +kernel
theorem dX5_likeliestLetter_60 : decode cX5_likeliestLetter 60 = .ok (.iload_n 2, 1) := by decide +kernel
theorem dX5_likeliestLetter_61 : decode cX5_likeliestLetter 61 = .ok (.ireturn, 1) := by decide +kernel
theorem dX5_sharpestLetter_0 : decode cX5_sharpestLetter 0 = .ok (.iconst 0, 1) := by decide +kernel
theorem dX5_sharpestLetter_1 : decode cX5_sharpestLetter 1 = .ok (.istore_n 2, 1) := by decide +kernel
theorem dX5_sharpestLetter_2 : decode cX5_sharpestLetter 2 = .ok (.bipush 17, 2) := by decide +kernel
theorem dX5_sharpestLetter_4 : decode cX5_sharpestLetter 4 = .ok (.istore_n 3, 1) := by decide +kernel
theorem dX5_sharpestLetter_5 : decode cX5_sharpestLetter 5 = .ok (.iconst 0, 1) := by decide +kernel
theorem dX5_sharpestLetter_6 : decode cX5_sharpestLetter 6 = .ok (.istore 4, 2) := by decide +kernel
theorem dX5_sharpestLetter_8 : decode cX5_sharpestLetter 8 = .ok (.iload 4, 2) := by decide +kernel
theorem dX5_sharpestLetter_10 : decode cX5_sharpestLetter 10 = .ok (.bipush 26, 2) := by decide +kernel
theorem dX5_sharpestLetter_12 : decode cX5_sharpestLetter 12 = .ok (.if_icmp .ge 49, 3) := by decide +kernel
theorem dX5_sharpestLetter_15 : decode cX5_sharpestLetter 15 = .ok (.aload_n 0, 1) := by decide +kernel
theorem dX5_sharpestLetter_16 : decode cX5_sharpestLetter 16 = .ok (.getfield 28, 3) := by decide +kernel
theorem dX5_sharpestLetter_19 : decode cX5_sharpestLetter 19 = .ok (.iload 4, 2) := by decide +kernel
theorem dX5_sharpestLetter_21 : decode cX5_sharpestLetter 21 = .ok (.invokevirtual 194, 3) := by decide +kernel
theorem dX5_sharpestLetter_24 : decode cX5_sharpestLetter 24 = .ok (.ifCond .eq 16, 3) := by decide +kernel
theorem dX5_sharpestLetter_27 : decode cX5_sharpestLetter 27 = .ok (.aload_n 0, 1) := by decide +kernel
theorem dX5_sharpestLetter_28 : decode cX5_sharpestLetter 28 = .ok (.getfield 12, 3) := by decide +kernel
theorem dX5_sharpestLetter_31 : decode cX5_sharpestLetter 31 = .ok (.iload_n 1, 1) := by decide +kernel
theorem dX5_sharpestLetter_32 : decode cX5_sharpestLetter 32 = .ok (.iload 4, 2) := by decide +kernel
theorem dX5_sharpestLetter_34 : decode cX5_sharpestLetter 34 = .ok (.invokevirtual 200, 3) := by decide +kernel
theorem dX5_sharpestLetter_37 : decode cX5_sharpestLetter 37 = .ok (.goto 4, 3) := by decide +kernel
theorem dX5_sharpestLetter_40 : decode cX5_sharpestLetter 40 = .ok (.iload_n 3, 1) := by decide +kernel
theorem dX5_sharpestLetter_41 : decode cX5_sharpestLetter 41 = .ok (.istore 5, 2) := by decide +kernel
theorem dX5_sharpestLetter_43 : decode cX5_sharpestLetter 43 = .ok (.iload 5, 2) := by decide +kernel
theorem dX5_sharpestLetter_45 : decode cX5_sharpestLetter 45 = .ok (.iload_n 3, 1) := by decide +kernel
theorem dX5_sharpestLetter_46 : decode cX5_sharpestLetter 46 = .ok (.if_icmp .ge 9, 3) := by decide +kernel
theorem dX5_sharpestLetter_49 : decode cX5_sharpestLetter 49 = .ok (.iload 4, 2) := by decide +kernel
theorem dX5_sharpestLetter_51 : decode cX5_sharpestLetter 51 = .ok (.istore_n 2, 1) := by decide +kernel
theorem dX5_sharpestLetter_52 : decode cX5_sharpestLetter 52 = .ok (.iload 5, 2) := by decide +kernel
theorem dX5_sharpestLetter_54 : decode cX5_sharpestLetter 54 = .ok (.istore_n 3, 1) := by decide +kernel
theorem dX5_sharpestLetter_55 : decode cX5_sharpestLetter 55 = .ok (.iinc 4 1, 3) := by decide +kernel
theorem dX5_sharpestLetter_58 : decode cX5_sharpestLetter 58 = .ok (.goto (-50), 3) := by decide +kernel
theorem dX5_sharpestLetter_61 : decode cX5_sharpestLetter 61 = .ok (.iload_n 2, 1) := by decide +kernel
theorem dX5_sharpestLetter_62 : decode cX5_sharpestLetter 62 = .ok (.ireturn, 1) := by decide +kernel
theorem dX6_init_0 : decode cX6_init 0 = .ok (.aload_n 0, 1) := by decide +kernel
theorem dX6_init_1 : decode cX6_init 1 = .ok (.invokespecial 3, 3) := by decide +kernel
theorem dX6_init_4 : decode cX6_init 4 = .ok (.aload_n 0, 1) := by decide +kernel
theorem dX6_init_5 : decode cX6_init 5 = .ok (.iconst 0, 1) := by decide +kernel
theorem dX6_init_6 : decode cX6_init 6 = .ok (.putfield 9, 3) := by decide +kernel
theorem dX6_init_9 : decode cX6_init 9 = .ok (.aload_n 0, 1) := by decide +kernel
theorem dX6_init_10 : decode cX6_init 10 = .ok (.iconst 0, 1) := by decide +kernel
theorem dX6_init_11 : decode cX6_init 11 = .ok (.putfield 15, 3) := by decide +kernel
theorem dX6_init_14 : decode cX6_init 14 = .ok (.aload_n 0, 1) := by decide +kernel
theorem dX6_init_15 : decode cX6_init 15 = .ok (.iconst 0, 1) := by decide +kernel
theorem dX6_init_16 : decode cX6_init 16 = .ok (.putfield 18, 3) := by decide +kernel
theorem dX6_init_19 : decode cX6_init 19 = .ok (.aload_n 0, 1) := by decide +kernel
theorem dX6_init_20 : decode cX6_init 20 = .ok (.new 21, 3) := by decide +kernel
theorem dX6_init_23 : decode cX6_init 23 = .ok (.dup, 1) := by decide +kernel
theorem dX6_init_24 : decode cX6_init 24 = .ok (.invokespecial 23, 3) := by decide +kernel
theorem dX6_init_27 : decode cX6_init 27 = .ok (.putfield 24, 3) := by decide +kernel
theorem dX6_init_30 : decode cX6_init 30 = .ok (.aload_n 0, 1) := by decide +kernel
theorem dX6_init_31 : decode cX6_init 31 = .ok (.new 28, 3) := by decide +kernel
theorem dX6_init_34 : decode cX6_init 34 = .ok (.dup, 1) := by decide +kernel
theorem dX6_init_35 : decode cX6_init 35 = .ok (.bipush 120, 2) := by decide +kernel
theorem dX6_init_37 : decode cX6_init 37 = .ok (.invokespecial 30, 3) := by decide +kernel
theorem dX6_init_40 : decode cX6_init 40 = .ok (.putfield 33, 3) := by decide +kernel
theorem dX6_init_43 : decode cX6_init 43 = .ok (.aload_n 0, 1) := by decide +kernel
theorem dX6_init_44 : decode cX6_init 44 = .ok (.iconst 0, 1) := by decide +kernel
theorem dX6_init_45 : decode cX6_init 45 = .ok (.putfield 37, 3) := by decide +kernel
theorem dX6_init_48 : decode cX6_init 48 = .ok (.return_, 1) := by decide +kernel
theorem dX6_append_0 : decode cX6_append 0 = .ok (.aload_n 0, 1) := by decide +kernel
theorem dX6_append_1 : decode cX6_append 1 = .ok (.getfield 33, 3) := by decide +kernel
theorem dX6_append_4 : decode cX6_append 4 = .ok (.aload_n 0, 1) := by decide +kernel
theorem dX6_append_5 : decode cX6_append 5 = .ok (.getfield 9, 3) := by decide +kernel
theorem dX6_append_8 : decode cX6_append 8 = .ok (.iload_n 1, 1) := by decide +kernel
theorem dX6_append_9 : decode cX6_append 9 = .ok (.invokevirtual 40, 3) := by decide +kernel
theorem dX6_append_12 : decode cX6_append 12 = .ok (.aload_n 0, 1) := by decide +kernel
theorem dX6_append_13 : decode cX6_append 13 = .ok (.dup, 1) := by decide +kernel
theorem dX6_append_14 : decode cX6_append 14 = .ok (.getfield 9, 3) := by decide +kernel
theorem dX6_append_17 : decode cX6_append 17 = .ok (.iconst 1, 1) := by decide +kernel
theorem dX6_append_18 : decode cX6_append 18 = .ok (.iadd, 1) := by decide +kernel
theorem dX6_append_19 : decode cX6_append 19 = .ok (.putfield 9, 3) := by decide +kernel
theorem dX6_append_22 : decode cX6_append 22 = .ok (.return_, 1) := by decide +kernel
theorem dX6_hasFault_0 : decode cX6_hasFault 0 = .ok (.aload_n 0, 1) := by decide +kernel
theorem dX6_hasFault_1 : decode cX6_hasFault 1 = .ok (.getfield 18, 3) := by decide +kernel
theorem dX6_hasFault_4 : decode cX6_hasFault 4 = .ok (.ifCond .eq 7, 3) := by decide +kernel
theorem dX6_hasFault_7 : decode cX6_hasFault 7 = .ok (.iconst 1, 1) := by decide +kernel
theorem dX6_hasFault_8 : decode cX6_hasFault 8 = .ok (.goto 4, 3) := by decide +kernel
theorem dX6_hasFault_11 : decode cX6_hasFault 11 = .ok (.iconst 0, 1) := by decide +kernel
theorem dX6_hasFault_12 : decode cX6_hasFault 12 = .ok (.ireturn, 1) := by decide +kernel
theorem dX6_scan_0 : decode cX6_scan 0 = .ok (.aload_n 0, 1) := by decide +kernel
theorem dX6_scan_1 : decode cX6_scan 1 = .ok (.getfield 24, 3) := by decide +kernel
theorem dX6_scan_4 : decode cX6_scan 4 = .ok (.iconst 0, 1) := by decide +kernel
theorem dX6_scan_5 : decode cX6_scan 5 = .ok (.putfield 44, 3) := by decide +kernel
theorem dX6_scan_8 : decode cX6_scan 8 = .ok (.aload_n 0, 1) := by decide +kernel
theorem dX6_scan_9 : decode cX6_scan 9 = .ok (.iconst 0, 1) := by decide +kernel
theorem dX6_scan_10 : decode cX6_scan 10 = .ok (.putfield 37, 3) := by decide +kernel
theorem dX6_scan_13 : decode cX6_scan 13 = .ok (.aload_n 0, 1) := by decide +kernel
theorem dX6_scan_14 : decode cX6_scan 14 = .ok (.iconst 0, 1) := by decide +kernel
theorem dX6_scan_15 : decode cX6_scan 15 = .ok (.putfield 18, 3) := by decide +kernel
theorem dX6_scan_18 : decode cX6_scan 18 = .ok (.aload_n 0, 1) := by decide +kernel
theorem dX6_scan_19 : decode cX6_scan 19 = .ok (.invokevirtual 47, 3) := by decide +kernel
theorem dX6_scan_22 : decode cX6_scan 22 = .ok (.iconst 1, 1) := by decide +kernel
theorem dX6_scan_23 : decode cX6_scan 23 = .ok (.istore_n 1, 1) := by decide +kernel
theorem dX6_scan_24 : decode cX6_scan 24 = .ok (.iload_n 1, 1) := by decide +kernel
theorem dX6_scan_25 : decode cX6_scan 25 = .ok (.bipush 16, 2) := by decide +kernel
theorem dX6_scan_27 : decode cX6_scan 27 = .ok (.if_icmp .gt 31, 3) := by decide +kernel
theorem dX6_scan_30 : decode cX6_scan 30 = .ok (.aload_n 0, 1) := by decide +kernel
theorem dX6_scan_31 : decode cX6_scan 31 = .ok (.getfield 37, 3) := by decide +kernel
theorem dX6_scan_34 : decode cX6_scan 34 = .ok (.aload_n 0, 1) := by decide +kernel
theorem dX6_scan_35 : decode cX6_scan 35 = .ok (.getfield 9, 3) := by decide +kernel
theorem dX6_scan_38 : decode cX6_scan 38 = .ok (.if_icmp .ge 20, 3) := by decide +kernel
theorem dX6_scan_41 : decode cX6_scan 41 = .ok (.aload_n 0, 1) := by decide +kernel
theorem dX6_scan_42 : decode cX6_scan 42 = .ok (.invokevirtual 50, 3) := by decide +kernel
theorem dX6_scan_45 : decode cX6_scan 45 = .ok (.ifCond .ne 13, 3) := by decide +kernel
theorem dX6_scan_48 : decode cX6_scan 48 = .ok (.aload_n 0, 1) := by decide +kernel
theorem dX6_scan_49 : decode cX6_scan 49 = .ok (.invokevirtual 47, 3) := by decide +kernel
theorem dX6_scan_52 : decode cX6_scan 52 = .ok (.iinc 1 1, 3) := by decide +kernel
theorem dX6_scan_55 : decode cX6_scan 55 = .ok (.goto (-31), 3) := by decide +kernel
theorem dX6_scan_58 : decode cX6_scan 58 = .ok (.return_, 1) := by decide +kernel
theorem dX6_scanWord_0 : decode cX6_scanWord 0 = .ok (.aload_n 0, 1) := by decide +kernel
theorem dX6_scanWord_1 : decode cX6_scanWord 1 = .ok (.getfield 37, 3) := by decide +kernel
theorem dX6_scanWord_4 : decode cX6_scanWord 4 = .ok (.istore_n 1, 1) := by decide +kernel
theorem dX6_scanWord_5 : decode cX6_scanWord 5 = .ok (.aload_n 0, 1) := by decide +kernel
theorem dX6_scanWord_6 : decode cX6_scanWord 6 = .ok (.iload_n 1, 1) := by decide +kernel
theorem dX6_scanWord_7 : decode cX6_scanWord 7 = .ok (.invokevirtual 54, 3) := by decide +kernel
theorem dX6_scanWord_10 : decode cX6_scanWord 10 = .ok (.invokestatic 58, 3) := by decide +kernel
theorem dX6_scanWord_13 : decode cX6_scanWord 13 = .ok (.ifCond .ne 13, 3) := by decide +kernel
theorem dX6_scanWord_16 : decode cX6_scanWord 16 = .ok (.aload_n 0, 1) := by decide +kernel
theorem dX6_scanWord_17 : decode cX6_scanWord 17 = .ok (.iload_n 1, 1) := by decide +kernel
theorem dX6_scanWord_18 : decode cX6_scanWord 18 = .ok (.iconst 1, 1) := by decide +kernel
theorem dX6_scanWord_19 : decode cX6_scanWord 19 = .ok (.invokevirtual 62, 3) := by decide +kernel
theorem dX6_scanWord_22 : decode cX6_scanWord 22 = .ok (.pop, 1) := by decide +kernel
theorem dX6_scanWord_23 : decode cX6_scanWord 23 = .ok (.goto 62, 3) := by decide +kernel
theorem dX6_scanWord_26 : decode cX6_scanWord 26 = .ok (.aload_n 0, 1) := by decide +kernel
theorem dX6_scanWord_27 : decode cX6_scanWord 27 = .ok (.getfield 24, 3) := by decide +kernel
theorem dX6_scanWord_30 : decode cX6_scanWord 30 = .ok (.getfield 44, 3) := by decide +kernel
theorem dX6_scanWord_33 : decode cX6_scanWord 33 = .ok (.bipush 16, 2) := by decide +kernel
theorem dX6_scanWord_35 : decode cX6_scanWord 35 = .ok (.if_icmp .lt 13, 3) := by decide +kernel
theorem dX6_scanWord_38 : decode cX6_scanWord 38 = .ok (.aload_n 0, 1) := by decide +kernel
theorem dX6_scanWord_39 : decode cX6_scanWord 39 = .ok (.iload_n 1, 1) := by decide +kernel
theorem dX6_scanWord_40 : decode cX6_scanWord 40 = .ok (.iconst 4, 1) := by decide +kernel
theorem dX6_scanWord_41 : decode cX6_scanWord 41 = .ok (.invokevirtual 62, 3) := by decide +kernel
theorem dX6_scanWord_44 : decode cX6_scanWord 44 = .ok (.pop, 1) := by decide +kernel
theorem dX6_scanWord_45 : decode cX6_scanWord 45 = .ok (.goto 40, 3) := by decide +kernel
theorem dX6_scanWord_48 : decode cX6_scanWord 48 = .ok (.aload_n 0, 1) := by decide +kernel
theorem dX6_scanWord_49 : decode cX6_scanWord 49 = .ok (.invokevirtual 66, 3) := by decide +kernel
theorem dX6_scanWord_52 : decode cX6_scanWord 52 = .ok (.ifCond .eq 33, 3) := by decide +kernel
theorem dX6_scanWord_55 : decode cX6_scanWord 55 = .ok (.aload_n 0, 1) := by decide +kernel
theorem dX6_scanWord_56 : decode cX6_scanWord 56 = .ok (.bipush 42, 2) := by decide +kernel
theorem dX6_scanWord_58 : decode cX6_scanWord 58 = .ok (.invokevirtual 69, 3) := by decide +kernel
theorem dX6_scanWord_61 : decode cX6_scanWord 61 = .ok (.ifCond .eq 24, 3) := by decide +kernel
theorem dX6_scanWord_64 : decode cX6_scanWord 64 = .ok (.aload_n 0, 1) := by decide +kernel
theorem dX6_scanWord_65 : decode cX6_scanWord 65 = .ok (.invokevirtual 72, 3) := by decide +kernel
theorem dX6_scanWord_68 : decode cX6_scanWord 68 = .ok (.ifCond .eq 17, 3) := by decide +kernel
theorem dX6_scanWord_71 : decode cX6_scanWord 71 = .ok (.aload_n 0, 1) := by decide +kernel
theorem dX6_scanWord_72 : decode cX6_scanWord 72 = .ok (.bipush 59, 2) := by decide +kernel
theorem dX6_scanWord_74 : decode cX6_scanWord 74 = .ok (.invokevirtual 69, 3) := by decide +kernel
theorem dX6_scanWord_77 : decode cX6_scanWord 77 = .ok (.ifCond .eq 8, 3) := by decide +kernel
theorem dX6_scanWord_80 : decode cX6_scanWord 80 = .ok (.aload_n 0, 1) := by decide +kernel
theorem dX6_scanWord_81 : decode cX6_scanWord 81 = .ok (.iload_n 1, 1) := by decide +kernel
theorem dX6_scanWord_82 : decode cX6_scanWord 82 = .ok (.invokevirtual 75, 3) := by decide +kernel
theorem dX6_scanWord_85 : decode cX6_scanWord 85 = .ok (.return_, 1) := by decide +kernel
theorem dX6_addWord_0 : decode cX6_addWord 0 = .ok (.iconst 0, 1) := by decide +kernel
theorem dX6_addWord_1 : decode cX6_addWord 1 = .ok (.istore_n 2, 1) := by decide +kernel
theorem dX6_addWord_2 : decode cX6_addWord 2 = .ok (.iload_n 2, 1) := by decide +kernel
theorem dX6_addWord_3 : decode cX6_addWord 3 = .ok (.aload_n 0, 1) := by decide +kernel
theorem dX6_addWord_4 : decode cX6_addWord 4 = .ok (.getfield 24, 3) := by decide +kernel
theorem dX6_addWord_7 : decode cX6_addWord 7 = .ok (.getfield 44, 3) := by decide +kernel
theorem dX6_addWord_10 : decode cX6_addWord 10 = .ok (.if_icmp .ge 35, 3) := by decide +kernel
theorem dX6_addWord_13 : decode cX6_addWord 13 = .ok (.aload_n 0, 1) := by decide +kernel
theorem dX6_addWord_14 : decode cX6_addWord 14 = .ok (.getfield 24, 3) := by decide +kernel
theorem dX6_addWord_17 : decode cX6_addWord 17 = .ok (.iload_n 2, 1) := by decide +kernel
theorem dX6_addWord_18 : decode cX6_addWord 18 = .ok (.aload_n 0, 1) := by decide +kernel
theorem dX6_addWord_19 : decode cX6_addWord 19 = .ok (.getfield 24, 3) := by decide +kernel
theorem dX6_addWord_22 : decode cX6_addWord 22 = .ok (.getfield 44, 3) := by decide +kernel
theorem dX6_addWord_25 : decode cX6_addWord 25 = .ok (.invokevirtual 78, 3) := by decide +kernel
theorem dX6_addWord_28 : decode cX6_addWord 28 = .ok (.ifCond .eq 11, 3) := by decide +kernel
theorem dX6_addWord_31 : decode cX6_addWord 31 = .ok (.aload_n 0, 1) := by decide +kernel
theorem dX6_addWord_32 : decode cX6_addWord 32 = .ok (.iload_n 1, 1) := by decide +kernel
theorem dX6_addWord_33 : decode cX6_addWord 33 = .ok (.iconst 3, 1) := by decide +kernel
theorem dX6_addWord_34 : decode cX6_addWord 34 = .ok (.invokevirtual 62, 3) := by decide +kernel
theorem dX6_addWord_37 : decode cX6_addWord 37 = .ok (.pop, 1) := by decide +kernel
theorem dX6_addWord_38 : decode cX6_addWord 38 = .ok (.return_, 1) := by decide +kernel
theorem dX6_addWord_39 : decode cX6_addWord 39 = .ok (.iinc 2 1, 3) := by decide +kernel
theorem dX6_addWord_42 : decode cX6_addWord 42 = .ok (.goto (-40), 3) := by decide +kernel
theorem dX6_addWord_45 : decode cX6_addWord 45 = .ok (.aload_n 0, 1) := by decide +kernel
theorem dX6_addWord_46 : decode cX6_addWord 46 = .ok (.getfield 24, 3) := by decide +kernel
theorem dX6_addWord_49 : decode cX6_addWord 49 = .ok (.dup, 1) := by decide +kernel
theorem dX6_addWord_50 : decode cX6_addWord 50 = .ok (.getfield 44, 3) := by decide +kernel
theorem dX6_addWord_53 : decode cX6_addWord 53 = .ok (.iconst 1, 1) := by decide +kernel
theorem dX6_addWord_54 : decode cX6_addWord 54 = .ok (.iadd, 1) := by decide +kernel
theorem dX6_addWord_55 : decode cX6_addWord 55 = .ok (.putfield 44, 3) := by decide +kernel
theorem dX6_addWord_58 : decode cX6_addWord 58 = .ok (.return_, 1) := by decide +kernel
theorem dX6_scanLetters_0 : decode cX6_scanLetters 0 = .ok (.iconst 0, 1) := by decide +kernel
theorem dX6_scanLetters_1 : decode cX6_scanLetters 1 = .ok (.istore_n 1, 1) := by decide +kernel
theorem dX6_scanLetters_2 : decode cX6_scanLetters 2 = .ok (.iload_n 1, 1) := by decide +kernel
theorem dX6_scanLetters_3 : decode cX6_scanLetters 3 = .ok (.bipush 8, 2) := by decide +kernel
theorem dX6_scanLetters_5 : decode cX6_scanLetters 5 = .ok (.if_icmp .ge 59, 3) := by decide +kernel
theorem dX6_scanLetters_8 : decode cX6_scanLetters 8 = .ok (.aload_n 0, 1) := by decide +kernel
theorem dX6_scanLetters_9 : decode cX6_scanLetters 9 = .ok (.aload_n 0, 1) := by decide +kernel
theorem dX6_scanLetters_10 : decode cX6_scanLetters 10 = .ok (.getfield 37, 3) := by decide +kernel
theorem dX6_scanLetters_13 : decode cX6_scanLetters 13 = .ok (.invokevirtual 54, 3) := by decide +kernel
theorem dX6_scanLetters_16 : decode cX6_scanLetters 16 = .ok (.invokestatic 58, 3) := by decide +kernel
theorem dX6_scanLetters_19 : decode cX6_scanLetters 19 = .ok (.ifCond .eq 45, 3) := by decide +kernel
theorem dX6_scanLetters_22 : decode cX6_scanLetters 22 = .ok (.aload_n 0, 1) := by decide +kernel
theorem dX6_scanLetters_23 : decode cX6_scanLetters 23 = .ok (.getfield 24, 3) := by decide +kernel
theorem dX6_scanLetters_26 : decode cX6_scanLetters 26 = .ok (.aload_n 0, 1) := by decide +kernel
theorem dX6_scanLetters_27 : decode cX6_scanLetters 27 = .ok (.getfield 24, 3) := by decide +kernel
theorem dX6_scanLetters_30 : decode cX6_scanLetters 30 = .ok (.getfield 44, 3) := by decide +kernel
theorem dX6_scanLetters_33 : decode cX6_scanLetters 33 = .ok (.iload_n 1, 1) := by decide +kernel
theorem dX6_scanLetters_34 : decode cX6_scanLetters 34 = .ok (.aload_n 0, 1) := by decide +kernel
theorem dX6_scanLetters_35 : decode cX6_scanLetters 35 = .ok (.aload_n 0, 1) := by decide +kernel
theorem dX6_scanLetters_36 : decode cX6_scanLetters 36 = .ok (.getfield 37, 3) := by decide +kernel
theorem dX6_scanLetters_39 : decode cX6_scanLetters 39 = .ok (.invokevirtual 54, 3) := by decide +kernel
theorem dX6_scanLetters_42 : decode cX6_scanLetters 42 = .ok (.bipush 97, 2) := by decide +kernel
theorem dX6_scanLetters_44 : decode cX6_scanLetters 44 = .ok (.isub, 1) := by decide +kernel
theorem dX6_scanLetters_45 : decode cX6_scanLetters 45 = .ok (.invokevirtual 81, 3) := by decide +kernel
theorem dX6_scanLetters_48 : decode cX6_scanLetters 48 = .ok (.iinc 1 1, 3) := by decide +kernel
theorem dX6_scanLetters_51 : decode cX6_scanLetters 51 = .ok (.aload_n 0, 1) := by decide +kernel
theorem dX6_scanLetters_52 : decode cX6_scanLetters 52 = .ok (.dup, 1) := by decide +kernel
theorem dX6_scanLetters_53 : decode cX6_scanLetters 53 = .ok (.getfield 37, 3) := by decide +kernel
theorem dX6_scanLetters_56 : decode cX6_scanLetters 56 = .ok (.iconst 1, 1) := by decide +kernel
theorem dX6_scanLetters_57 : decode cX6_scanLetters 57 = .ok (.iadd, 1) := by decide +kernel
theorem dX6_scanLetters_58 : decode cX6_scanLetters 58 = .ok (.putfield 37, 3) := by decide +kernel
theorem dX6_scanLetters_61 : decode cX6_scanLetters 61 = .ok (.goto (-59), 3) := by decide +kernel
theorem dX6_scanLetters_64 : decode cX6_scanLetters 64 = .ok (.aload_n 0, 1) := by decide +kernel
theorem dX6_scanLetters_65 : decode cX6_scanLetters 65 = .ok (.getfield 24, 3) := by decide +kernel
theorem dX6_scanLetters_68 : decode cX6_scanLetters 68 = .ok (.getfield 85, 3) := by decide +kernel
theorem dX6_scanLetters_71 : decode cX6_scanLetters 71 = .ok (.aload_n 0, 1) := by decide +kernel
theorem dX6_scanLetters_72 : decode cX6_scanLetters 72 = .ok (.getfield 24, 3) := by decide +kernel
theorem dX6_scanLetters_75 : decode cX6_scanLetters 75 = .ok (.getfield 44, 3) := by decide +kernel
theorem dX6_scanLetters_78 : decode cX6_scanLetters 78 = .ok (.iload_n 1, 1) := by decide +kernel
theorem dX6_scanLetters_79 : decode cX6_scanLetters 79 = .ok (.invokevirtual 40, 3) := by decide +kernel
theorem dX6_scanLetters_82 : decode cX6_scanLetters 82 = .ok (.iload_n 1, 1) := by decide +kernel
theorem dX6_scanLetters_83 : decode cX6_scanLetters 83 = .ok (.iconst 2, 1) := by decide +kernel
theorem dX6_scanLetters_84 : decode cX6_scanLetters 84 = .ok (.if_icmp .ge 13, 3) := by decide +kernel
theorem dX6_scanLetters_87 : decode cX6_scanLetters 87 = .ok (.aload_n 0, 1) := by decide +kernel
theorem dX6_scanLetters_88 : decode cX6_scanLetters 88 = .ok (.aload_n 0, 1) := by decide +kernel
theorem dX6_scanLetters_89 : decode cX6_scanLetters 89 = .ok (.getfield 37, 3) := by decide +kernel
theorem dX6_scanLetters_92 : decode cX6_scanLetters 92 = .ok (.iconst 1, 1) := by decide +kernel
theorem dX6_scanLetters_93 : decode cX6_scanLetters 93 = .ok (.invokevirtual 62, 3) := by decide +kernel
theorem dX6_scanLetters_96 : decode cX6_scanLetters 96 = .ok (.ireturn, 1) := by decide +kernel
theorem dX6_scanLetters_97 : decode cX6_scanLetters 97 = .ok (.aload_n 0, 1) := by decide +kernel
theorem dX6_scanLetters_98 : decode cX6_scanLetters 98 = .ok (.aload_n 0, 1) := by decide +kernel
theorem dX6_scanLetters_99 : decode cX6_scanLetters 99 = .ok (.getfield 37, 3) := by decide +kernel
theorem dX6_scanLetters_102 : decode cX6_scanLetters 102 = .ok (.invokevirtual 54, 3) := by decide +kernel
theorem dX6_scanLetters_105 : decode cX6_scanLetters 105 = .ok (.invokestatic 58, 3) := by decide +kernel
theorem dX6_scanLetters_108 : decode cX6_scanLetters 108 = .ok (.ifCond .eq 13, 3) := by decide +kernel
theorem dX6_scanLetters_111 : decode cX6_scanLetters 111 = .ok (.aload_n 0, 1) := by decide +kernel
theorem dX6_scanLetters_112 : decode cX6_scanLetters 112 = .ok (.aload_n 0, 1) := by decide +kernel
theorem dX6_scanLetters_113 : decode cX6_scanLetters 113 = .ok (.getfield 37, 3) := by decide +kernel
theorem dX6_scanLetters_116 : decode cX6_scanLetters 116 = .ok (.iconst 2, 1) := by decide +kernel
theorem dX6_scanLetters_117 : decode cX6_scanLetters 117 = .ok (.invokevirtual 62, 3) := by decide +kernel
theorem dX6_scanLetters_120 : decode cX6_scanLetters 120 = .ok (.ireturn, 1) := by decide +kernel
theorem dX6_scanLetters_121 : decode cX6_scanLetters 121 = .ok (.iconst 1, 1) := by decide +kernel
theorem dX6_scanLetters_122 : decode cX6_scanLetters 122 = .ok (.ireturn, 1) := by decide +kernel
theorem dX6_scanWeight_0 : decode cX6_scanWeight 0 = .ok (.aload_n 0, 1) := by decide +kernel
theorem dX6_scanWeight_1 : decode cX6_scanWeight 1 = .ok (.aload_n 0, 1) := by decide +kernel
theorem dX6_scanWeight_2 : decode cX6_scanWeight 2 = .ok (.getfield 37, 3) := by decide +kernel
theorem dX6_scanWeight_5 : decode cX6_scanWeight 5 = .ok (.invokevirtual 54, 3) := by decide +kernel
theorem dX6_scanWeight_8 : decode cX6_scanWeight 8 = .ok (.istore_n 1, 1) := by decide +kernel
theorem dX6_scanWeight_9 : decode cX6_scanWeight 9 = .ok (.iload_n 1, 1) := by decide +kernel
theorem dX6_scanWeight_10 : decode cX6_scanWeight 10 = .ok (.bipush 49, 2) := by decide +kernel
theorem dX6_scanWeight_12 : decode cX6_scanWeight 12 = .ok (.bipush 57, 2) := by decide +kernel
theorem dX6_scanWeight_14 : decode cX6_scanWeight 14 = .ok (.invokestatic 87, 3) := by decide +kernel
theorem dX6_scanWeight_17 : decode cX6_scanWeight 17 = .ok (.ifCond .ne 13, 3) := by decide +kernel
theorem dX6_scanWeight_20 : decode cX6_scanWeight 20 = .ok (.aload_n 0, 1) := by decide +kernel
theorem dX6_scanWeight_21 : decode cX6_scanWeight 21 = .ok (.aload_n 0, 1) := by decide +kernel
theorem dX6_scanWeight_22 : decode cX6_scanWeight 22 = .ok (.getfield 37, 3) := by decide +kernel
theorem dX6_scanWeight_25 : decode cX6_scanWeight 25 = .ok (.iconst 1, 1) := by decide +kernel
theorem dX6_scanWeight_26 : decode cX6_scanWeight 26 = .ok (.invokevirtual 62, 3) := by decide +kernel
theorem dX6_scanWeight_29 : decode cX6_scanWeight 29 = .ok (.ireturn, 1) := by decide +kernel
theorem dX6_scanWeight_30 : decode cX6_scanWeight 30 = .ok (.aload_n 0, 1) := by decide +kernel
theorem dX6_scanWeight_31 : decode cX6_scanWeight 31 = .ok (.dup, 1) := by decide +kernel
theorem dX6_scanWeight_32 : decode cX6_scanWeight 32 = .ok (.getfield 37, 3) := by decide +kernel
theorem dX6_scanWeight_35 : decode cX6_scanWeight 35 = .ok (.iconst 1, 1) := by decide +kernel
theorem dX6_scanWeight_36 : decode cX6_scanWeight 36 = .ok (.iadd, 1) := by decide +kernel
theorem dX6_scanWeight_37 : decode cX6_scanWeight 37 = .ok (.putfield 37, 3) := by decide +kernel
theorem dX6_scanWeight_40 : decode cX6_scanWeight 40 = .ok (.iload_n 1, 1) := by decide +kernel
theorem dX6_scanWeight_41 : decode cX6_scanWeight 41 = .ok (.bipush 48, 2) := by decide +kernel
theorem dX6_scanWeight_43 : decode cX6_scanWeight 43 = .ok (.isub, 1) := by decide +kernel
theorem dX6_scanWeight_44 : decode cX6_scanWeight 44 = .ok (.istore_n 2, 1) := by decide +kernel
theorem dX6_scanWeight_45 : decode cX6_scanWeight 45 = .ok (.aload_n 0, 1) := by decide +kernel
theorem dX6_scanWeight_46 : decode cX6_scanWeight 46 = .ok (.aload_n 0, 1) := by decide +kernel
theorem dX6_scanWeight_47 : decode cX6_scanWeight 47 = .ok (.getfield 37, 3) := by decide +kernel
theorem dX6_scanWeight_50 : decode cX6_scanWeight 50 = .ok (.invokevirtual 54, 3) := by decide +kernel
theorem dX6_scanWeight_53 : decode cX6_scanWeight 53 = .ok (.istore_n 3, 1) := by decide +kernel
theorem dX6_scanWeight_54 : decode cX6_scanWeight 54 = .ok (.iload_n 3, 1) := by decide +kernel
theorem dX6_scanWeight_55 : decode cX6_scanWeight 55 = .ok (.bipush 48, 2) := by decide +kernel
theorem dX6_scanWeight_57 : decode cX6_scanWeight 57 = .ok (.bipush 57, 2) := by decide +kernel
theorem dX6_scanWeight_59 : decode cX6_scanWeight 59 = .ok (.invokestatic 87, 3) := by decide +kernel
theorem dX6_scanWeight_62 : decode cX6_scanWeight 62 = .ok (.ifCond .eq 23, 3) := by decide +kernel
theorem dX6_scanWeight_65 : decode cX6_scanWeight 65 = .ok (.aload_n 0, 1) := by decide +kernel
theorem dX6_scanWeight_66 : decode cX6_scanWeight 66 = .ok (.dup, 1) := by decide +kernel
theorem dX6_scanWeight_67 : decode cX6_scanWeight 67 = .ok (.getfield 37, 3) := by decide +kernel
theorem dX6_scanWeight_70 : decode cX6_scanWeight 70 = .ok (.iconst 1, 1) := by decide +kernel
theorem dX6_scanWeight_71 : decode cX6_scanWeight 71 = .ok (.iadd, 1) := by decide +kernel
theorem dX6_scanWeight_72 : decode cX6_scanWeight 72 = .ok (.putfield 37, 3) := by decide +kernel
theorem dX6_scanWeight_75 : decode cX6_scanWeight 75 = .ok (.iload_n 2, 1) := by decide +kernel
theorem dX6_scanWeight_76 : decode cX6_scanWeight 76 = .ok (.bipush 10, 2) := by decide +kernel
theorem dX6_scanWeight_78 : decode cX6_scanWeight 78 = .ok (.imul, 1) := by decide +kernel
theorem dX6_scanWeight_79 : decode cX6_scanWeight 79 = .ok (.iload_n 3, 1) := by decide +kernel
theorem dX6_scanWeight_80 : decode cX6_scanWeight 80 = .ok (.iadd, 1) := by decide +kernel
theorem dX6_scanWeight_81 : decode cX6_scanWeight 81 = .ok (.bipush 48, 2) := by decide +kernel
theorem dX6_scanWeight_83 : decode cX6_scanWeight 83 = .ok (.isub, 1) := by decide +kernel
theorem dX6_scanWeight_84 : decode cX6_scanWeight 84 = .ok (.istore_n 2, 1) := by decide +kernel
theorem dX6_scanWeight_85 : decode cX6_scanWeight 85 = .ok (.aload_n 0, 1) := by decide +kernel
theorem dX6_scanWeight_86 : decode cX6_scanWeight 86 = .ok (.getfield 24, 3) := by decide +kernel
theorem dX6_scanWeight_89 : decode cX6_scanWeight 89 = .ok (.getfield 91, 3) := by decide +kernel
theorem dX6_scanWeight_92 : decode cX6_scanWeight 92 = .ok (.aload_n 0, 1) := by decide +kernel
theorem dX6_scanWeight_93 : decode cX6_scanWeight 93 = .ok (.getfield 24, 3) := by decide +kernel
theorem dX6_scanWeight_96 : decode cX6_scanWeight 96 = .ok (.getfield 44, 3) := by decide +kernel
theorem dX6_scanWeight_99 : decode cX6_scanWeight 99 = .ok (.iload_n 2, 1) := by decide +kernel
theorem dX6_scanWeight_100 : decode cX6_scanWeight 100 = .ok (.invokevirtual 40, 3) := by decide +kernel
theorem dX6_scanWeight_103 : decode cX6_scanWeight 103 = .ok (.iconst 1, 1) := by decide +kernel
theorem dX6_scanWeight_104 : decode cX6_scanWeight 104 = .ok (.ireturn, 1) := by decide +kernel
theorem dX6_scanSign_0 : decode cX6_scanSign 0 = .ok (.aload_n 0, 1) := by decide +kernel
theorem dX6_scanSign_1 : decode cX6_scanSign 1 = .ok (.aload_n 0, 1) := by decide +kernel
theorem dX6_scanSign_2 : decode cX6_scanSign 2 = .ok (.getfield 37, 3) := by decide +kernel
theorem dX6_scanSign_5 : decode cX6_scanSign 5 = .ok (.invokevirtual 54, 3) := by decide +kernel
theorem dX6_scanSign_8 : decode cX6_scanSign 8 = .ok (.iload_n 1, 1) := by decide +kernel
theorem dX6_scanSign_9 : decode cX6_scanSign 9 = .ok (.if_icmp .eq 13, 3) := by decide +kernel
theorem dX6_scanSign_12 : decode cX6_scanSign 12 = .ok (.aload_n 0, 1) := by decide +kernel
theorem dX6_scanSign_13 : decode cX6_scanSign 13 = .ok (.aload_n 0, 1) := by decide +kernel
theorem dX6_scanSign_14 : decode cX6_scanSign 14 = .ok (.getfield 37, 3) := by decide +kernel
theorem dX6_scanSign_17 : decode cX6_scanSign 17 = .ok (.iconst 1, 1) := by decide +kernel
theorem dX6_scanSign_18 : decode cX6_scanSign 18 = .ok (.invokevirtual 62, 3) := by decide +kernel
theorem dX6_scanSign_21 : decode cX6_scanSign 21 = .ok (.ireturn, 1) := by decide +kernel
theorem dX6_scanSign_22 : decode cX6_scanSign 22 = .ok (.aload_n 0, 1) := by decide +kernel
theorem dX6_scanSign_23 : decode cX6_scanSign 23 = .ok (.dup, 1) := by decide +kernel
theorem dX6_scanSign_24 : decode cX6_scanSign 24 = .ok (.getfield 37, 3) := by decide +kernel
theorem dX6_scanSign_27 : decode cX6_scanSign 27 = .ok (.iconst 1, 1) := by decide +kernel
theorem dX6_scanSign_28 : decode cX6_scanSign 28 = .ok (.iadd, 1) := by decide +kernel
theorem dX6_scanSign_29 : decode cX6_scanSign 29 = .ok (.putfield 37, 3) := by decide +kernel
theorem dX6_scanSign_32 : decode cX6_scanSign 32 = .ok (.iconst 1, 1) := by decide +kernel
theorem dX6_scanSign_33 : decode cX6_scanSign 33 = .ok (.ireturn, 1) := by decide +kernel
theorem dX6_fail_0 : decode cX6_fail 0 = .ok (.aload_n 0, 1) := by decide +kernel
theorem dX6_fail_1 : decode cX6_fail 1 = .ok (.iload_n 1, 1) := by decide +kernel
theorem dX6_fail_2 : decode cX6_fail 2 = .ok (.putfield 15, 3) := by decide +kernel
theorem dX6_fail_5 : decode cX6_fail 5 = .ok (.aload_n 0, 1) := by decide +kernel
theorem dX6_fail_6 : decode cX6_fail 6 = .ok (.iload_n 2, 1) := by decide +kernel
theorem dX6_fail_7 : decode cX6_fail 7 = .ok (.putfield 18, 3) := by decide +kernel
theorem dX6_fail_10 : decode cX6_fail 10 = .ok (.iconst 0, 1) := by decide +kernel
theorem dX6_fail_11 : decode cX6_fail 11 = .ok (.ireturn, 1) := by decide +kernel
theorem dX6_characterAt_0 : decode cX6_characterAt 0 = .ok (.iload_n 1, 1) := by decide +kernel
theorem dX6_characterAt_1 : decode cX6_characterAt 1 = .ok (.aload_n 0, 1) := by decide +kernel
theorem dX6_characterAt_2 : decode cX6_characterAt 2 = .ok (.getfield 9, 3) := by decide +kernel
theorem dX6_characterAt_5 : decode cX6_characterAt 5 = .ok (.if_icmp .ge 14, 3) := by decide +kernel
theorem dX6_characterAt_8 : decode cX6_characterAt 8 = .ok (.aload_n 0, 1) := by decide +kernel
theorem dX6_characterAt_9 : decode cX6_characterAt 9 = .ok (.getfield 33, 3) := by decide +kernel
theorem dX6_characterAt_12 : decode cX6_characterAt 12 = .ok (.iload_n 1, 1) := by decide +kernel
theorem dX6_characterAt_13 : decode cX6_characterAt 13 = .ok (.invokevirtual 94, 3) := by decide +kernel
theorem dX6_characterAt_16 : decode cX6_characterAt 16 = .ok (.goto 4, 3) := by decide +kernel
theorem dX6_characterAt_19 : decode cX6_characterAt 19 = .ok (.iconst 0, 1) := by decide +kernel
theorem dX6_characterAt_20 : decode cX6_characterAt 20 = .ok (.ireturn, 1) := by decide +kernel
theorem dX6_isSmallLetter_0 : decode cX6_isSmallLetter 0 = .ok (.iload_n 0, 1) := by decide +kernel
theorem dX6_isSmallLetter_1 : decode cX6_isSmallLetter 1 = .ok (.bipush 97, 2) := by decide +kernel
theorem dX6_isSmallLetter_3 : decode cX6_isSmallLetter 3 = .ok (.bipush 122, 2) := by decide +kernel
theorem dX6_isSmallLetter_5 : decode cX6_isSmallLetter 5 = .ok (.invokestatic 87, 3) := by decide +kernel
theorem dX6_isSmallLetter_8 : decode cX6_isSmallLetter 8 = .ok (.ireturn, 1) := by decide +kernel
theorem dX7_init_0 : decode cX7_init 0 = .ok (.aload_n 0, 1) := by decide +kernel
theorem dX7_init_1 : decode cX7_init 1 = .ok (.invokespecial 3, 3) := by decide +kernel
theorem dX7_init_4 : decode cX7_init 4 = .ok (.aload_n 0, 1) := by decide +kernel
theorem dX7_init_5 : decode cX7_init 5 = .ok (.new 9, 3) := by decide +kernel
theorem dX7_init_8 : decode cX7_init 8 = .ok (.dup, 1) := by decide +kernel
theorem dX7_init_9 : decode cX7_init 9 = .ok (.bipush 16, 2) := by decide +kernel
theorem dX7_init_11 : decode cX7_init 11 = .ok (.invokespecial 11, 3) := by decide +kernel
theorem dX7_init_14 : decode cX7_init 14 = .ok (.putfield 14, 3) := by decide +kernel
theorem dX7_init_17 : decode cX7_init 17 = .ok (.aload_n 0, 1) := by decide +kernel
theorem dX7_init_18 : decode cX7_init 18 = .ok (.new 9, 3) := by decide +kernel
theorem dX7_init_21 : decode cX7_init 21 = .ok (.dup, 1) := by decide +kernel
theorem dX7_init_22 : decode cX7_init 22 = .ok (.bipush 16, 2) := by decide +kernel
theorem dX7_init_24 : decode cX7_init 24 = .ok (.invokespecial 11, 3) := by decide +kernel
theorem dX7_init_27 : decode cX7_init 27 = .ok (.putfield 20, 3) := by decide +kernel
theorem dX7_init_30 : decode cX7_init 30 = .ok (.aload_n 0, 1) := by decide +kernel
theorem dX7_init_31 : decode cX7_init 31 = .ok (.new 9, 3) := by decide +kernel
theorem dX7_init_34 : decode cX7_init 34 = .ok (.dup, 1) := by decide +kernel
theorem dX7_init_35 : decode cX7_init 35 = .ok (.bipush 16, 2) := by decide +kernel
theorem dX7_init_37 : decode cX7_init 37 = .ok (.invokespecial 11, 3) := by decide +kernel
theorem dX7_init_40 : decode cX7_init 40 = .ok (.putfield 23, 3) := by decide +kernel
theorem dX7_init_43 : decode cX7_init 43 = .ok (.aload_n 0, 1) := by decide +kernel
theorem dX7_init_44 : decode cX7_init 44 = .ok (.new 9, 3) := by decide +kernel
theorem dX7_init_47 : decode cX7_init 47 = .ok (.dup, 1) := by decide +kernel
theorem dX7_init_48 : decode cX7_init 48 = .ok (.sipush 128, 3) := by decide +kernel
theorem dX7_init_51 : decode cX7_init 51 = .ok (.invokespecial 11, 3) := by decide +kernel
theorem dX7_init_54 : decode cX7_init 54 = .ok (.putfield 26, 3) := by decide +kernel
theorem dX7_init_57 : decode cX7_init 57 = .ok (.return_, 1) := by decide +kernel
theorem dX7_copyFrom_0 : decode cX7_copyFrom 0 = .ok (.aload_n 0, 1) := by decide +kernel
theorem dX7_copyFrom_1 : decode cX7_copyFrom 1 = .ok (.aload_n 1, 1) := by decide +kernel
theorem dX7_copyFrom_2 : decode cX7_copyFrom 2 = .ok (.getfield 29, 3) := by decide +kernel
theorem dX7_copyFrom_5 : decode cX7_copyFrom 5 = .ok (.putfield 29, 3) := by decide +kernel
theorem dX7_copyFrom_8 : decode cX7_copyFrom 8 = .ok (.aload_n 0, 1) := by decide +kernel
theorem dX7_copyFrom_9 : decode cX7_copyFrom 9 = .ok (.getfield 14, 3) := by decide +kernel
theorem dX7_copyFrom_12 : decode cX7_copyFrom 12 = .ok (.aload_n 1, 1) := by decide +kernel
theorem dX7_copyFrom_13 : decode cX7_copyFrom 13 = .ok (.getfield 14, 3) := by decide +kernel
theorem dX7_copyFrom_16 : decode cX7_copyFrom 16 = .ok (.invokevirtual 33, 3) := by decide +kernel
theorem dX7_copyFrom_19 : decode cX7_copyFrom 19 = .ok (.aload_n 0, 1) := by decide +kernel
theorem dX7_copyFrom_20 : decode cX7_copyFrom 20 = .ok (.getfield 20, 3) := by decide +kernel
theorem dX7_copyFrom_23 : decode cX7_copyFrom 23 = .ok (.aload_n 1, 1) := by decide +kernel
theorem dX7_copyFrom_24 : decode cX7_copyFrom 24 = .ok (.getfield 20, 3) := by decide +kernel
theorem dX7_copyFrom_27 : decode cX7_copyFrom 27 = .ok (.invokevirtual 33, 3) := by decide +kernel
theorem dX7_copyFrom_30 : decode cX7_copyFrom 30 = .ok (.aload_n 0, 1) := by decide +kernel
theorem dX7_copyFrom_31 : decode cX7_copyFrom 31 = .ok (.getfield 23, 3) := by decide +kernel
theorem dX7_copyFrom_34 : decode cX7_copyFrom 34 = .ok (.aload_n 1, 1) := by decide +kernel
theorem dX7_copyFrom_35 : decode cX7_copyFrom 35 = .ok (.getfield 23, 3) := by decide +kernel
theorem dX7_copyFrom_38 : decode cX7_copyFrom 38 = .ok (.invokevirtual 33, 3) := by decide +kernel
theorem dX7_copyFrom_41 : decode cX7_copyFrom 41 = .ok (.aload_n 0, 1) := by decide +kernel
theorem dX7_copyFrom_42 : decode cX7_copyFrom 42 = .ok (.getfield 26, 3) := by decide +kernel
theorem dX7_copyFrom_45 : decode cX7_copyFrom 45 = .ok (.aload_n 1, 1) := by decide +kernel
theorem dX7_copyFrom_46 : decode cX7_copyFrom 46 = .ok (.getfield 26, 3) := by decide +kernel
theorem dX7_copyFrom_49 : decode cX7_copyFrom 49 = .ok (.invokevirtual 33, 3) := by decide +kernel
theorem dX7_copyFrom_52 : decode cX7_copyFrom 52 = .ok (.return_, 1) := by decide +kernel
theorem dX7_has_0 : decode cX7_has 0 = .ok (.iload_n 1, 1) := by decide +kernel
theorem dX7_has_1 : decode cX7_has 1 = .ok (.ifCond .lt 15, 3) := by decide +kernel
theorem dX7_has_4 : decode cX7_has 4 = .ok (.iload_n 1, 1) := by decide +kernel
theorem dX7_has_5 : decode cX7_has 5 = .ok (.aload_n 0, 1) := by decide +kernel
theorem dX7_has_6 : decode cX7_has 6 = .ok (.getfield 29, 3) := by decide +kernel
theorem dX7_has_9 : decode cX7_has 9 = .ok (.if_icmp .ge 7, 3) := by decide +kernel
theorem dX7_has_12 : decode cX7_has 12 = .ok (.iconst 1, 1) := by decide +kernel
theorem dX7_has_13 : decode cX7_has 13 = .ok (.goto 4, 3) := by decide +kernel
theorem dX7_has_16 : decode cX7_has 16 = .ok (.iconst 0, 1) := by decide +kernel
theorem dX7_has_17 : decode cX7_has 17 = .ok (.ireturn, 1) := by decide +kernel
theorem dX7_letterAt_0 : decode cX7_letterAt 0 = .ok (.aload_n 0, 1) := by decide +kernel
theorem dX7_letterAt_1 : decode cX7_letterAt 1 = .ok (.getfield 26, 3) := by decide +kernel
theorem dX7_letterAt_4 : decode cX7_letterAt 4 = .ok (.iload_n 1, 1) := by decide +kernel
theorem dX7_letterAt_5 : decode cX7_letterAt 5 = .ok (.bipush 8, 2) := by decide +kernel
theorem dX7_letterAt_7 : decode cX7_letterAt 7 = .ok (.imul, 1) := by decide +kernel
theorem dX7_letterAt_8 : decode cX7_letterAt 8 = .ok (.iload_n 2, 1) := by decide +kernel
theorem dX7_letterAt_9 : decode cX7_letterAt 9 = .ok (.iadd, 1) := by decide +kernel
theorem dX7_letterAt_10 : decode cX7_letterAt 10 = .ok (.invokevirtual 37, 3) := by decide +kernel
theorem dX7_letterAt_13 : decode cX7_letterAt 13 = .ok (.ireturn, 1) := by decide +kernel
theorem dX7_putLetter_0 : decode cX7_putLetter 0 = .ok (.aload_n 0, 1) := by decide +kernel
theorem dX7_putLetter_1 : decode cX7_putLetter 1 = .ok (.getfield 26, 3) := by decide +kernel
theorem dX7_putLetter_4 : decode cX7_putLetter 4 = .ok (.iload_n 1, 1) := by decide +kernel
theorem dX7_putLetter_5 : decode cX7_putLetter 5 = .ok (.bipush 8, 2) := by decide +kernel
theorem dX7_putLetter_7 : decode cX7_putLetter 7 = .ok (.imul, 1) := by decide +kernel
theorem dX7_putLetter_8 : decode cX7_putLetter 8 = .ok (.iload_n 2, 1) := by decide +kernel
theorem dX7_putLetter_9 : decode cX7_putLetter 9 = .ok (.iadd, 1) := by decide +kernel
theorem dX7_putLetter_10 : decode cX7_putLetter 10 = .ok (.iload_n 3, 1) := by decide +kernel
theorem dX7_putLetter_11 : decode cX7_putLetter 11 = .ok (.invokevirtual 41, 3) := by decide +kernel
theorem dX7_putLetter_14 : decode cX7_putLetter 14 = .ok (.return_, 1) := by decide +kernel
theorem dX7_letterSet_0 : decode cX7_letterSet 0 = .ok (.iconst 0, 1) := by decide +kernel
theorem dX7_letterSet_1 : decode cX7_letterSet 1 = .ok (.istore_n 2, 1) := by decide +kernel
theorem dX7_letterSet_2 : decode cX7_letterSet 2 = .ok (.aload_n 0, 1) := by decide +kernel
theorem dX7_letterSet_3 : decode cX7_letterSet 3 = .ok (.getfield 14, 3) := by decide +kernel
theorem dX7_letterSet_6 : decode cX7_letterSet 6 = .ok (.iload_n 1, 1) := by decide +kernel
theorem dX7_letterSet_7 : decode cX7_letterSet 7 = .ok (.invokevirtual 37, 3) := by decide +kernel
theorem dX7_letterSet_10 : decode cX7_letterSet 10 = .ok (.istore_n 3, 1) := by decide +kernel
theorem dX7_letterSet_11 : decode cX7_letterSet 11 = .ok (.iconst 0, 1) := by decide +kernel
theorem dX7_letterSet_12 : decode cX7_letterSet 12 = .ok (.istore 4, 2) := by decide +kernel
theorem dX7_letterSet_14 : decode cX7_letterSet 14 = .ok (.iload 4, 2) := by decide +kernel
theorem dX7_letterSet_16 : decode cX7_letterSet 16 = .ok (.iload_n 3, 1) := by decide +kernel
theorem dX7_letterSet_17 : decode cX7_letterSet 17 = .ok (.if_icmp .ge 21, 3) := by decide +kernel
theorem dX7_letterSet_20 : decode cX7_letterSet 20 = .ok (.iload_n 2, 1) := by decide +kernel
theorem dX7_letterSet_21 : decode cX7_letterSet 21 = .ok (.iconst 1, 1) := by decide +kernel
theorem dX7_letterSet_22 : decode cX7_letterSet 22 = .ok (.aload_n 0, 1) := by decide +kernel
theorem dX7_letterSet_23 : decode cX7_letterSet 23 = .ok (.iload_n 1, 1) := by decide +kernel
theorem dX7_letterSet_24 : decode cX7_letterSet 24 = .ok (.iload 4, 2) := by decide +kernel
theorem dX7_letterSet_26 : decode cX7_letterSet 26 = .ok (.invokevirtual 45, 3) := by decide +kernel
theorem dX7_letterSet_29 : decode cX7_letterSet 29 = .ok (.ishl, 1) := by decide +kernel
theorem dX7_letterSet_30 : decode cX7_letterSet 30 = .ok (.ior, 1) := by decide +kernel
theorem dX7_letterSet_31 : decode cX7_letterSet 31 = .ok (.istore_n 2, 1) := by decide +kernel
theorem dX7_letterSet_32 : decode cX7_letterSet 32 = .ok (.iinc 4 1, 3) := by decide +kernel
theorem dX7_letterSet_35 : decode cX7_letterSet 35 = .ok (.goto (-21), 3) := by decide +kernel
theorem dX7_letterSet_38 : decode cX7_letterSet 38 = .ok (.iload_n 2, 1) := by decide +kernel
theorem dX7_letterSet_39 : decode cX7_letterSet 39 = .ok (.ireturn, 1) := by decide +kernel
theorem dX7_placesOf_0 : decode cX7_placesOf 0 = .ok (.iconst 0, 1) := by decide +kernel
theorem dX7_placesOf_1 : decode cX7_placesOf 1 = .ok (.istore_n 3, 1) := by decide +kernel
theorem dX7_placesOf_2 : decode cX7_placesOf 2 = .ok (.aload_n 0, 1) := by decide +kernel
theorem dX7_placesOf_3 : decode cX7_placesOf 3 = .ok (.getfield 14, 3) := by decide +kernel
theorem dX7_placesOf_6 : decode cX7_placesOf 6 = .ok (.iload_n 1, 1) := by decide +kernel
theorem dX7_placesOf_7 : decode cX7_placesOf 7 = .ok (.invokevirtual 37, 3) := by decide +kernel
theorem dX7_placesOf_10 : decode cX7_placesOf 10 = .ok (.istore 4, 2) := by decide +kernel
theorem dX7_placesOf_12 : decode cX7_placesOf 12 = .ok (.iconst 0, 1) := by decide +kernel
theorem dX7_placesOf_13 : decode cX7_placesOf 13 = .ok (.istore 5, 2) := by decide +kernel
theorem dX7_placesOf_15 : decode cX7_placesOf 15 = .ok (.iload 5, 2) := by decide +kernel
theorem dX7_placesOf_17 : decode cX7_placesOf 17 = .ok (.iload 4, 2) := by decide +kernel
theorem dX7_placesOf_19 : decode cX7_placesOf 19 = .ok (.if_icmp .ge 27, 3) := by decide +kernel
theorem dX7_placesOf_22 : decode cX7_placesOf 22 = .ok (.aload_n 0, 1) := by decide +kernel
theorem dX7_placesOf_23 : decode cX7_placesOf 23 = .ok (.iload_n 1, 1) := by decide +kernel
theorem dX7_placesOf_24 : decode cX7_placesOf 24 = .ok (.iload 5, 2) := by decide +kernel
theorem dX7_placesOf_26 : decode cX7_placesOf 26 = .ok (.invokevirtual 45, 3) := by decide +kernel
theorem dX7_placesOf_29 : decode cX7_placesOf 29 = .ok (.iload_n 2, 1) := by decide +kernel
theorem dX7_placesOf_30 : decode cX7_placesOf 30 = .ok (.if_icmp .ne 10, 3) := by decide +kernel
theorem dX7_placesOf_33 : decode cX7_placesOf 33 = .ok (.iload_n 3, 1) := by decide +kernel
theorem dX7_placesOf_34 : decode cX7_placesOf 34 = .ok (.iconst 1, 1) := by decide +kernel
theorem dX7_placesOf_35 : decode cX7_placesOf 35 = .ok (.iload 5, 2) := by decide +kernel
theorem dX7_placesOf_37 : decode cX7_placesOf 37 = .ok (.ishl, 1) := by decide +kernel
theorem dX7_placesOf_38 : decode cX7_placesOf 38 = .ok (.ior, 1) := by decide +kernel
theorem dX7_placesOf_39 : decode cX7_placesOf 39 = .ok (.istore_n 3, 1) := by decide +kernel
theorem dX7_placesOf_40 : decode cX7_placesOf 40 = .ok (.iinc 5 1, 3) := by decide +kernel
theorem dX7_placesOf_43 : decode cX7_placesOf 43 = .ok (.goto (-28), 3) := by decide +kernel
theorem dX7_placesOf_46 : decode cX7_placesOf 46 = .ok (.iload_n 3, 1) := by decide +kernel
theorem dX7_placesOf_47 : decode cX7_placesOf 47 = .ok (.ireturn, 1) := by decide +kernel
theorem dX7_areSame_0 : decode cX7_areSame 0 = .ok (.aload_n 0, 1) := by decide +kernel
theorem dX7_areSame_1 : decode cX7_areSame 1 = .ok (.getfield 14, 3) := by decide +kernel
theorem dX7_areSame_4 : decode cX7_areSame 4 = .ok (.iload_n 1, 1) := by decide +kernel
theorem dX7_areSame_5 : decode cX7_areSame 5 = .ok (.invokevirtual 37, 3) := by decide +kernel
theorem dX7_areSame_8 : decode cX7_areSame 8 = .ok (.istore_n 3, 1) := by decide +kernel
theorem dX7_areSame_9 : decode cX7_areSame 9 = .ok (.aload_n 0, 1) := by decide +kernel
theorem dX7_areSame_10 : decode cX7_areSame 10 = .ok (.getfield 14, 3) := by decide +kernel
theorem dX7_areSame_13 : decode cX7_areSame 13 = .ok (.iload_n 2, 1) := by decide +kernel
theorem dX7_areSame_14 : decode cX7_areSame 14 = .ok (.invokevirtual 37, 3) := by decide +kernel
theorem dX7_areSame_17 : decode cX7_areSame 17 = .ok (.iload_n 3, 1) := by decide +kernel
theorem dX7_areSame_18 : decode cX7_areSame 18 = .ok (.if_icmp .eq 5, 3) := by decide +kernel
theorem dX7_areSame_21 : decode cX7_areSame 21 = .ok (.iconst 0, 1) := by decide +kernel
theorem dX7_areSame_22 : decode cX7_areSame 22 = .ok (.ireturn, 1) := by decide +kernel
theorem dX7_areSame_23 : decode cX7_areSame 23 = .ok (.iconst 0, 1) := by decide +kernel
theorem dX7_areSame_24 : decode cX7_areSame 24 = .ok (.istore 4, 2) := by decide +kernel
theorem dX7_areSame_26 : decode cX7_areSame 26 = .ok (.iload 4, 2) := by decide +kernel
theorem dX7_areSame_28 : decode cX7_areSame 28 = .ok (.iload_n 3, 1) := by decide +kernel
theorem dX7_areSame_29 : decode cX7_areSame 29 = .ok (.if_icmp .ge 28, 3) := by decide +kernel
theorem dX7_areSame_32 : decode cX7_areSame 32 = .ok (.aload_n 0, 1) := by decide +kernel
theorem dX7_areSame_33 : decode cX7_areSame 33 = .ok (.iload_n 1, 1) := by decide +kernel
theorem dX7_areSame_34 : decode cX7_areSame 34 = .ok (.iload 4, 2) := by decide +kernel
theorem dX7_areSame_36 : decode cX7_areSame 36 = .ok (.invokevirtual 45, 3) := by decide +kernel
theorem dX7_areSame_39 : decode cX7_areSame 39 = .ok (.aload_n 0, 1) := by decide +kernel
theorem dX7_areSame_40 : decode cX7_areSame 40 = .ok (.iload_n 2, 1) := by decide +kernel
theorem dX7_areSame_41 : decode cX7_areSame 41 = .ok (.iload 4, 2) := by decide +kernel
theorem dX7_areSame_43 : decode cX7_areSame 43 = .ok (.invokevirtual 45, 3) := by decide +kernel
theorem dX7_areSame_46 : decode cX7_areSame 46 = .ok (.if_icmp .eq 5, 3) := by decide +kernel
theorem dX7_areSame_49 : decode cX7_areSame 49 = .ok (.iconst 0, 1) := by decide +kernel
theorem dX7_areSame_50 : decode cX7_areSame 50 = .ok (.ireturn, 1) := by decide +kernel
theorem dX7_areSame_51 : decode cX7_areSame 51 = .ok (.iinc 4 1, 3) := by decide +kernel
theorem dX7_areSame_54 : decode cX7_areSame 54 = .ok (.goto (-28), 3) := by decide +kernel
theorem dX7_areSame_57 : decode cX7_areSame 57 = .ok (.iconst 1, 1) := by decide +kernel
theorem dX7_areSame_58 : decode cX7_areSame 58 = .ok (.ireturn, 1) := by decide +kernel
theorem dX7_weightOf_0 : decode cX7_weightOf 0 = .ok (.iconst 0, 1) := by decide +kernel
theorem dX7_weightOf_1 : decode cX7_weightOf 1 = .ok (.istore_n 2, 1) := by decide +kernel
theorem dX7_weightOf_2 : decode cX7_weightOf 2 = .ok (.iconst 0, 1) := by decide +kernel
theorem dX7_weightOf_3 : decode cX7_weightOf 3 = .ok (.istore_n 3, 1) := by decide +kernel
theorem dX7_weightOf_4 : decode cX7_weightOf 4 = .ok (.iload_n 3, 1) := by decide +kernel
theorem dX7_weightOf_5 : decode cX7_weightOf 5 = .ok (.aload_n 0, 1) := by decide +kernel
theorem dX7_weightOf_6 : decode cX7_weightOf 6 = .ok (.getfield 29, 3) := by decide +kernel
theorem dX7_weightOf_9 : decode cX7_weightOf 9 = .ok (.if_icmp .ge 28, 3) := by decide +kernel
theorem dX7_weightOf_12 : decode cX7_weightOf 12 = .ok (.iload_n 1, 1) := by decide +kernel
theorem dX7_weightOf_13 : decode cX7_weightOf 13 = .ok (.iload_n 3, 1) := by decide +kernel
theorem dX7_weightOf_14 : decode cX7_weightOf 14 = .ok (.invokestatic 49, 3) := by decide +kernel
theorem dX7_weightOf_17 : decode cX7_weightOf 17 = .ok (.ifCond .eq 14, 3) := by decide +kernel
theorem dX7_weightOf_20 : decode cX7_weightOf 20 = .ok (.iload_n 2, 1) := by decide +kernel
theorem dX7_weightOf_21 : decode cX7_weightOf 21 = .ok (.aload_n 0, 1) := by decide +kernel
theorem dX7_weightOf_22 : decode cX7_weightOf 22 = .ok (.getfield 20, 3) := by decide +kernel
theorem dX7_weightOf_25 : decode cX7_weightOf 25 = .ok (.iload_n 3, 1) := by decide +kernel
theorem dX7_weightOf_26 : decode cX7_weightOf 26 = .ok (.invokevirtual 37, 3) := by decide +kernel
theorem dX7_weightOf_29 : decode cX7_weightOf 29 = .ok (.iadd, 1) := by decide +kernel
theorem dX7_weightOf_30 : decode cX7_weightOf 30 = .ok (.istore_n 2, 1) := by decide +kernel
theorem dX7_weightOf_31 : decode cX7_weightOf 31 = .ok (.iinc 3 1, 3) := by decide +kernel
theorem dX7_weightOf_34 : decode cX7_weightOf 34 = .ok (.goto (-30), 3) := by decide +kernel
theorem dX7_weightOf_37 : decode cX7_weightOf 37 = .ok (.iload_n 2, 1) := by decide +kernel
theorem dX7_weightOf_38 : decode cX7_weightOf 38 = .ok (.ireturn, 1) := by decide +kernel
theorem dX7_weightSum_0 : decode cX7_weightSum 0 = .ok (.aload_n 0, 1) := by decide +kernel
theorem dX7_weightSum_1 : decode cX7_weightSum 1 = .ok (.iconst (-1), 1) := by decide +kernel
theorem dX7_weightSum_2 : decode cX7_weightSum 2 = .ok (.invokevirtual 53, 3) := by decide +kernel
theorem dX7_weightSum_5 : decode cX7_weightSum 5 = .ok (.ireturn, 1) := by decide +kernel
theorem dX7_drawnBy_0 : decode cX7_drawnBy 0 = .ok (.aload_n 0, 1) := by decide +kernel
theorem dX7_drawnBy_1 : decode cX7_drawnBy 1 = .ok (.invokevirtual 56, 3) := by decide +kernel
theorem dX7_drawnBy_4 : decode cX7_drawnBy 4 = .ok (.istore_n 2, 1) := by decide +kernel
theorem dX7_drawnBy_5 : decode cX7_drawnBy 5 = .ok (.iload_n 2, 1) := by decide +kernel
theorem dX7_drawnBy_6 : decode cX7_drawnBy 6 = .ok (.ifCond .le 12, 3) := by decide +kernel
theorem dX7_drawnBy_9 : decode cX7_drawnBy 9 = .ok (.iload_n 1, 1) := by decide +kernel
theorem dX7_drawnBy_10 : decode cX7_drawnBy 10 = .ok (.ldc 60, 2) := by decide +kernel
theorem dX7_drawnBy_12 : decode cX7_drawnBy 12 = .ok (.idiv, 1) := by decide +kernel
theorem dX7_drawnBy_13 : decode cX7_drawnBy 13 = .ok (.iload_n 2, 1) := by decide +kernel
theorem dX7_drawnBy_14 : decode cX7_drawnBy 14 = .ok (.irem, 1) := by decide +kernel
theorem dX7_drawnBy_15 : decode cX7_drawnBy 15 = .ok (.goto 4, 3) := by decide +kernel
theorem dX7_drawnBy_18 : decode cX7_drawnBy 18 = .ok (.iconst 0, 1) := by decide +kernel
theorem dX7_drawnBy_19 : decode cX7_drawnBy 19 = .ok (.istore_n 3, 1) := by decide +kernel
theorem dX7_drawnBy_20 : decode cX7_drawnBy 20 = .ok (.iconst 0, 1) := by decide +kernel
theorem dX7_drawnBy_21 : decode cX7_drawnBy 21 = .ok (.istore 4, 2) := by decide +kernel
theorem dX7_drawnBy_23 : decode cX7_drawnBy 23 = .ok (.iconst 0, 1) := by decide +kernel
theorem dX7_drawnBy_24 : decode cX7_drawnBy 24 = .ok (.istore 5, 2) := by decide +kernel
theorem dX7_drawnBy_26 : decode cX7_drawnBy 26 = .ok (.iload 5, 2) := by decide +kernel
theorem dX7_drawnBy_28 : decode cX7_drawnBy 28 = .ok (.aload_n 0, 1) := by decide +kernel
theorem dX7_drawnBy_29 : decode cX7_drawnBy 29 = .ok (.getfield 29, 3) := by decide +kernel
theorem dX7_drawnBy_32 : decode cX7_drawnBy 32 = .ok (.if_icmp .ge 32, 3) := by decide +kernel
theorem dX7_drawnBy_35 : decode cX7_drawnBy 35 = .ok (.iload 4, 2) := by decide +kernel
theorem dX7_drawnBy_37 : decode cX7_drawnBy 37 = .ok (.aload_n 0, 1) := by decide +kernel
theorem dX7_drawnBy_38 : decode cX7_drawnBy 38 = .ok (.getfield 20, 3) := by decide +kernel
theorem dX7_drawnBy_41 : decode cX7_drawnBy 41 = .ok (.iload 5, 2) := by decide +kernel
theorem dX7_drawnBy_43 : decode cX7_drawnBy 43 = .ok (.invokevirtual 37, 3) := by decide +kernel
theorem dX7_drawnBy_46 : decode cX7_drawnBy 46 = .ok (.iadd, 1) := by decide +kernel
theorem dX7_drawnBy_47 : decode cX7_drawnBy 47 = .ok (.istore 4, 2) := by decide +kernel
theorem dX7_drawnBy_49 : decode cX7_drawnBy 49 = .ok (.iload 4, 2) := by decide +kernel
theorem dX7_drawnBy_51 : decode cX7_drawnBy 51 = .ok (.iload_n 3, 1) := by decide +kernel
theorem dX7_drawnBy_52 : decode cX7_drawnBy 52 = .ok (.if_icmp .le 6, 3) := by decide +kernel
theorem dX7_drawnBy_55 : decode cX7_drawnBy 55 = .ok (.iload 5, 2) := by decide +kernel
theorem dX7_drawnBy_57 : decode cX7_drawnBy 57 = .ok (.ireturn, 1) := by decide +kernel
theorem dX7_drawnBy_58 : decode cX7_drawnBy 58 = .ok (.iinc 5 1, 3) := by decide +kernel
theorem dX7_drawnBy_61 : decode cX7_drawnBy 61 = .ok (.goto (-35), 3) := by decide +kernel
theorem dX7_drawnBy_64 : decode cX7_drawnBy 64 = .ok (.iconst 0, 1) := by decide +kernel
theorem dX7_drawnBy_65 : decode cX7_drawnBy 65 = .ok (.ireturn, 1) := by decide +kernel
theorem dX7_fitting_0 : decode cX7_fitting 0 = .ok (.iconst 0, 1) := by decide +kernel
theorem dX7_fitting_1 : decode cX7_fitting 1 = .ok (.istore_n 3, 1) := by decide +kernel
theorem dX7_fitting_2 : decode cX7_fitting 2 = .ok (.iconst 0, 1) := by decide +kernel
theorem dX7_fitting_3 : decode cX7_fitting 3 = .ok (.istore 4, 2) := by decide +kernel
theorem dX7_fitting_5 : decode cX7_fitting 5 = .ok (.iload 4, 2) := by decide +kernel
theorem dX7_fitting_7 : decode cX7_fitting 7 = .ok (.aload_n 0, 1) := by decide +kernel
theorem dX7_fitting_8 : decode cX7_fitting 8 = .ok (.getfield 29, 3) := by decide +kernel
theorem dX7_fitting_11 : decode cX7_fitting 11 = .ok (.if_icmp .ge 27, 3) := by decide +kernel
theorem dX7_fitting_14 : decode cX7_fitting 14 = .ok (.aload_n 0, 1) := by decide +kernel
theorem dX7_fitting_15 : decode cX7_fitting 15 = .ok (.iload 4, 2) := by decide +kernel
theorem dX7_fitting_17 : decode cX7_fitting 17 = .ok (.iload_n 1, 1) := by decide +kernel
theorem dX7_fitting_18 : decode cX7_fitting 18 = .ok (.iload_n 2, 1) := by decide +kernel
theorem dX7_fitting_19 : decode cX7_fitting 19 = .ok (.invokevirtual 61, 3) := by decide +kernel
theorem dX7_fitting_22 : decode cX7_fitting 22 = .ok (.ifCond .eq 10, 3) := by decide +kernel
theorem dX7_fitting_25 : decode cX7_fitting 25 = .ok (.iload_n 3, 1) := by decide +kernel
theorem dX7_fitting_26 : decode cX7_fitting 26 = .ok (.iconst 1, 1) := by decide +kernel
theorem dX7_fitting_27 : decode cX7_fitting 27 = .ok (.iload 4, 2) := by decide +kernel
theorem dX7_fitting_29 : decode cX7_fitting 29 = .ok (.ishl, 1) := by decide +kernel
theorem dX7_fitting_30 : decode cX7_fitting 30 = .ok (.ior, 1) := by decide +kernel
theorem dX7_fitting_31 : decode cX7_fitting 31 = .ok (.istore_n 3, 1) := by decide +kernel
theorem dX7_fitting_32 : decode cX7_fitting 32 = .ok (.iinc 4 1, 3) := by decide +kernel
theorem dX7_fitting_35 : decode cX7_fitting 35 = .ok (.goto (-30), 3) := by decide +kernel
theorem dX7_fitting_38 : decode cX7_fitting 38 = .ok (.iload_n 3, 1) := by decide +kernel
theorem dX7_fitting_39 : decode cX7_fitting 39 = .ok (.ireturn, 1) := by decide +kernel
theorem dX7_looksLike_0 : decode cX7_looksLike 0 = .ok (.aload_n 0, 1) := by decide +kernel
theorem dX7_looksLike_1 : decode cX7_looksLike 1 = .ok (.getfield 14, 3) := by decide +kernel
theorem dX7_looksLike_4 : decode cX7_looksLike 4 = .ok (.iload_n 2, 1) := by decide +kernel
theorem dX7_looksLike_5 : decode cX7_looksLike 5 = .ok (.invokevirtual 37, 3) := by decide +kernel
theorem dX7_looksLike_8 : decode cX7_looksLike 8 = .ok (.istore 4, 2) := by decide +kernel
theorem dX7_looksLike_10 : decode cX7_looksLike 10 = .ok (.aload_n 0, 1) := by decide +kernel
theorem dX7_looksLike_11 : decode cX7_looksLike 11 = .ok (.getfield 14, 3) := by decide +kernel
theorem dX7_looksLike_14 : decode cX7_looksLike 14 = .ok (.iload_n 1, 1) := by decide +kernel
theorem dX7_looksLike_15 : decode cX7_looksLike 15 = .ok (.invokevirtual 37, 3) := by decide +kernel
theorem dX7_looksLike_18 : decode cX7_looksLike 18 = .ok (.iload 4, 2) := by decide +kernel
theorem dX7_looksLike_20 : decode cX7_looksLike 20 = .ok (.if_icmp .eq 5, 3) := by decide +kernel
theorem dX7_looksLike_23 : decode cX7_looksLike 23 = .ok (.iconst 0, 1) := by decide +kernel
theorem dX7_looksLike_24 : decode cX7_looksLike 24 = .ok (.ireturn, 1) := by decide +kernel
theorem dX7_looksLike_25 : decode cX7_looksLike 25 = .ok (.iconst 0, 1) := by decide +kernel
theorem dX7_looksLike_26 : decode cX7_looksLike 26 = .ok (.istore 5, 2) := by decide +kernel
theorem dX7_looksLike_28 : decode cX7_looksLike 28 = .ok (.iload 5, 2) := by decide +kernel
theorem dX7_looksLike_30 : decode cX7_looksLike 30 = .ok (.iload 4, 2) := by decide +kernel
theorem dX7_looksLike_32 : decode cX7_looksLike 32 = .ok (.if_icmp .ge 74, 3) := by decide +kernel
theorem dX7_looksLike_35 : decode cX7_looksLike 35 = .ok (.aload_n 0, 1) := by decide +kernel
theorem dX7_looksLike_36 : decode cX7_looksLike 36 = .ok (.iload_n 2, 1) := by decide +kernel
theorem dX7_looksLike_37 : decode cX7_looksLike 37 = .ok (.iload 5, 2) := by decide +kernel
theorem dX7_looksLike_39 : decode cX7_looksLike 39 = .ok (.invokevirtual 45, 3) := by decide +kernel
theorem dX7_looksLike_42 : decode cX7_looksLike 42 = .ok (.istore 6, 2) := by decide +kernel
theorem dX7_looksLike_44 : decode cX7_looksLike 44 = .ok (.aload_n 0, 1) := by decide +kernel
theorem dX7_looksLike_45 : decode cX7_looksLike 45 = .ok (.iload_n 1, 1) := by decide +kernel
theorem dX7_looksLike_46 : decode cX7_looksLike 46 = .ok (.iload 5, 2) := by decide +kernel
theorem dX7_looksLike_48 : decode cX7_looksLike 48 = .ok (.invokevirtual 45, 3) := by decide +kernel
theorem dX7_looksLike_51 : decode cX7_looksLike 51 = .ok (.istore 7, 2) := by decide +kernel
theorem dX7_looksLike_53 : decode cX7_looksLike 53 = .ok (.iload_n 3, 1) := by decide +kernel
theorem dX7_looksLike_54 : decode cX7_looksLike 54 = .ok (.iload 6, 2) := by decide +kernel
theorem dX7_looksLike_56 : decode cX7_looksLike 56 = .ok (.invokestatic 49, 3) := by decide +kernel
theorem dX7_looksLike_59 : decode cX7_looksLike 59 = .ok (.ifCond .eq 18, 3) := by decide +kernel
theorem dX7_looksLike_62 : decode cX7_looksLike 62 = .ok (.iload 7, 2) := by decide +kernel
theorem dX7_looksLike_64 : decode cX7_looksLike 64 = .ok (.iload 6, 2) := by decide +kernel
theorem dX7_looksLike_66 : decode cX7_looksLike 66 = .ok (.if_icmp .ne 7, 3) := by decide +kernel
theorem dX7_looksLike_69 : decode cX7_looksLike 69 = .ok (.iconst 1, 1) := by decide +kernel
theorem dX7_looksLike_70 : decode cX7_looksLike 70 = .ok (.goto 21, 3) := by decide +kernel
theorem dX7_looksLike_73 : decode cX7_looksLike 73 = .ok (.iconst 0, 1) := by decide +kernel
theorem dX7_looksLike_74 : decode cX7_looksLike 74 = .ok (.goto 17, 3) := by decide +kernel
theorem dX7_looksLike_77 : decode cX7_looksLike 77 = .ok (.iload_n 3, 1) := by decide +kernel
theorem dX7_looksLike_78 : decode cX7_looksLike 78 = .ok (.iload 7, 2) := by decide +kernel
theorem dX7_looksLike_80 : decode cX7_looksLike 80 = .ok (.invokestatic 49, 3) := by decide +kernel
theorem dX7_looksLike_83 : decode cX7_looksLike 83 = .ok (.ifCond .ne 7, 3) := by decide +kernel
theorem dX7_looksLike_86 : decode cX7_looksLike 86 = .ok (.iconst 1, 1) := by decide +kernel
theorem dX7_looksLike_87 : decode cX7_looksLike 87 = .ok (.goto 4, 3) := by decide +kernel
theorem dX7_looksLike_90 : decode cX7_looksLike 90 = .ok (.iconst 0, 1) := by decide +kernel
theorem dX7_looksLike_91 : decode cX7_looksLike 91 = .ok (.istore 8, 2) := by decide +kernel
theorem dX7_looksLike_93 : decode cX7_looksLike 93 = .ok (.iload 8, 2) := by decide +kernel
theorem dX7_looksLike_95 : decode cX7_looksLike 95 = .ok (.ifCond .ne 5, 3) := by decide +kernel
theorem dX7_looksLike_98 : decode cX7_looksLike 98 = .ok (.iconst 0, 1) := by decide +kernel
theorem dX7_looksLike_99 : decode cX7_looksLike 99 = .ok (.ireturn, 1) := by decide +kernel
theorem dX7_looksLike_100 : decode cX7_looksLike 100 = .ok (.iinc 5 1, 3) := by decide +kernel
theorem dX7_looksLike_103 : decode cX7_looksLike 103 = .ok (.goto (-75), 3) := by decide +kernel
theorem dX7_looksLike_106 : decode cX7_looksLike 106 = .ok (.iconst 1, 1) := by decide +kernel
theorem dX7_looksLike_107 : decode cX7_looksLike 107 = .ok (.ireturn, 1) := by decide +kernel
theorem dX7_weightHaving_0 : decode cX7_weightHaving 0 = .ok (.iconst 0, 1) := by decide +kernel
theorem dX7_weightHaving_1 : decode cX7_weightHaving 1 = .ok (.istore_n 3, 1) := by decide +kernel
theorem dX7_weightHaving_2 : decode cX7_weightHaving 2 = .ok (.iconst 0, 1) := by decide +kernel
theorem dX7_weightHaving_3 : decode cX7_weightHaving 3 = .ok (.istore 4, 2) := by decide +kernel
theorem dX7_weightHaving_5 : decode cX7_weightHaving 5 = .ok (.iload 4, 2) := by decide +kernel
theorem dX7_weightHaving_7 : decode cX7_weightHaving 7 = .ok (.aload_n 0, 1) := by decide +kernel
theorem dX7_weightHaving_8 : decode cX7_weightHaving 8 = .ok (.getfield 29, 3) := by decide +kernel
theorem dX7_weightHaving_11 : decode cX7_weightHaving 11 = .ok (.if_icmp .ge 40, 3) := by decide +kernel
theorem dX7_weightHaving_14 : decode cX7_weightHaving 14 = .ok (.iload_n 1, 1) := by decide +kernel
theorem dX7_weightHaving_15 : decode cX7_weightHaving 15 = .ok (.iload 4, 2) := by decide +kernel
theorem dX7_weightHaving_17 : decode cX7_weightHaving 17 = .ok (.invokestatic 49, 3) := by decide +kernel
theorem dX7_weightHaving_20 : decode cX7_weightHaving 20 = .ok (.ifCond .eq 25, 3) := by decide +kernel
theorem dX7_weightHaving_23 : decode cX7_weightHaving 23 = .ok (.aload_n 0, 1) := by decide +kernel
theorem dX7_weightHaving_24 : decode cX7_weightHaving 24 = .ok (.iload 4, 2) := by decide +kernel
theorem dX7_weightHaving_26 : decode cX7_weightHaving 26 = .ok (.iload_n 2, 1) := by decide +kernel
theorem dX7_weightHaving_27 : decode cX7_weightHaving 27 = .ok (.invokevirtual 65, 3) := by decide +kernel
theorem dX7_weightHaving_30 : decode cX7_weightHaving 30 = .ok (.ifCond .eq 15, 3) := by decide +kernel
theorem dX7_weightHaving_33 : decode cX7_weightHaving 33 = .ok (.iload_n 3, 1) := by decide +kernel
theorem dX7_weightHaving_34 : decode cX7_weightHaving 34 = .ok (.aload_n 0, 1) := by decide +kernel
theorem dX7_weightHaving_35 : decode cX7_weightHaving 35 = .ok (.getfield 20, 3) := by decide +kernel
theorem dX7_weightHaving_38 : decode cX7_weightHaving 38 = .ok (.iload 4, 2) := by decide +kernel
theorem dX7_weightHaving_40 : decode cX7_weightHaving 40 = .ok (.invokevirtual 37, 3) := by decide +kernel
theorem dX7_weightHaving_43 : decode cX7_weightHaving 43 = .ok (.iadd, 1) := by decide +kernel
theorem dX7_weightHaving_44 : decode cX7_weightHaving 44 = .ok (.istore_n 3, 1) := by decide +kernel
theorem dX7_weightHaving_45 : decode cX7_weightHaving 45 = .ok (.iinc 4 1, 3) := by decide +kernel
theorem dX7_weightHaving_48 : decode cX7_weightHaving 48 = .ok (.goto (-43), 3) := by decide +kernel
theorem dX7_weightHaving_51 : decode cX7_weightHaving 51 = .ok (.iload_n 3, 1) := by decide +kernel
theorem dX7_weightHaving_52 : decode cX7_weightHaving 52 = .ok (.ireturn, 1) := by decide +kernel
theorem dX7_largestGroup_0 : decode cX7_largestGroup 0 = .ok (.iconst 0, 1) := by decide +kernel
theorem dX7_largestGroup_1 : decode cX7_largestGroup 1 = .ok (.istore_n 3, 1) := by decide +kernel
theorem dX7_largestGroup_2 : decode cX7_largestGroup 2 = .ok (.iconst 0, 1) := by decide +kernel
theorem dX7_largestGroup_3 : decode cX7_largestGroup 3 = .ok (.istore 4, 2) := by decide +kernel
theorem dX7_largestGroup_5 : decode cX7_largestGroup 5 = .ok (.iload 4, 2) := by decide +kernel
theorem dX7_largestGroup_7 : decode cX7_largestGroup 7 = .ok (.aload_n 0, 1) := by decide +kernel
theorem dX7_largestGroup_8 : decode cX7_largestGroup 8 = .ok (.getfield 29, 3) := by decide +kernel
theorem dX7_largestGroup_11 : decode cX7_largestGroup 11 = .ok (.if_icmp .ge 31, 3) := by decide +kernel
theorem dX7_largestGroup_14 : decode cX7_largestGroup 14 = .ok (.iload_n 1, 1) := by decide +kernel
theorem dX7_largestGroup_15 : decode cX7_largestGroup 15 = .ok (.iload 4, 2) := by decide +kernel
theorem dX7_largestGroup_17 : decode cX7_largestGroup 17 = .ok (.invokestatic 49, 3) := by decide +kernel
theorem dX7_largestGroup_20 : decode cX7_largestGroup 20 = .ok (.ifCond .eq 16, 3) := by decide +kernel
theorem dX7_largestGroup_23 : decode cX7_largestGroup 23 = .ok (.iload_n 3, 1) := by decide +kernel
theorem dX7_largestGroup_24 : decode cX7_largestGroup 24 = .ok (.aload_n 0, 1) := by decide +kernel
theorem dX7_largestGroup_25 : decode cX7_largestGroup 25 = .ok (.iload_n 1, 1) := by decide +kernel
theorem dX7_largestGroup_26 : decode cX7_largestGroup 26 = .ok (.iload_n 2, 1) := by decide +kernel
theorem dX7_largestGroup_27 : decode cX7_largestGroup 27 = .ok (.iload 4, 2) := by decide +kernel
theorem dX7_largestGroup_29 : decode cX7_largestGroup 29 = .ok (.invokevirtual 68, 3) := by decide +kernel
theorem dX7_largestGroup_32 : decode cX7_largestGroup 32 = .ok (.invokestatic 72, 3) := by decide +kernel
theorem dX7_largestGroup_35 : decode cX7_largestGroup 35 = .ok (.istore_n 3, 1) := by decide +kernel
theorem dX7_largestGroup_36 : decode cX7_largestGroup 36 = .ok (.iinc 4 1, 3) := by decide +kernel
theorem dX7_largestGroup_39 : decode cX7_largestGroup 39 = .ok (.goto (-34), 3) := by decide +kernel
theorem dX7_largestGroup_42 : decode cX7_largestGroup 42 = .ok (.iload_n 3, 1) := by decide +kernel
theorem dX7_largestGroup_43 : decode cX7_largestGroup 43 = .ok (.ireturn, 1) := by decide +kernel
theorem dX7_groupOf_0 : decode cX7_groupOf 0 = .ok (.aload_n 0, 1) := by decide +kernel
theorem dX7_groupOf_1 : decode cX7_groupOf 1 = .ok (.iload_n 3, 1) := by decide +kernel
theorem dX7_groupOf_2 : decode cX7_groupOf 2 = .ok (.iload_n 2, 1) := by decide +kernel
theorem dX7_groupOf_3 : decode cX7_groupOf 3 = .ok (.invokevirtual 65, 3) := by decide +kernel
theorem dX7_groupOf_6 : decode cX7_groupOf 6 = .ok (.istore 4, 2) := by decide +kernel
theorem dX7_groupOf_8 : decode cX7_groupOf 8 = .ok (.iconst 0, 1) := by decide +kernel
theorem dX7_groupOf_9 : decode cX7_groupOf 9 = .ok (.istore 5, 2) := by decide +kernel
theorem dX7_groupOf_11 : decode cX7_groupOf 11 = .ok (.iconst 0, 1) := by decide +kernel
theorem dX7_groupOf_12 : decode cX7_groupOf 12 = .ok (.istore 6, 2) := by decide +kernel
theorem dX7_groupOf_14 : decode cX7_groupOf 14 = .ok (.iload 6, 2) := by decide +kernel
theorem dX7_groupOf_16 : decode cX7_groupOf 16 = .ok (.aload_n 0, 1) := by decide +kernel
theorem dX7_groupOf_17 : decode cX7_groupOf 17 = .ok (.getfield 29, 3) := by decide +kernel
theorem dX7_groupOf_20 : decode cX7_groupOf 20 = .ok (.if_icmp .ge 33, 3) := by decide +kernel
theorem dX7_groupOf_23 : decode cX7_groupOf 23 = .ok (.iload_n 1, 1) := by decide +kernel
theorem dX7_groupOf_24 : decode cX7_groupOf 24 = .ok (.iload 6, 2) := by decide +kernel
theorem dX7_groupOf_26 : decode cX7_groupOf 26 = .ok (.invokestatic 49, 3) := by decide +kernel
theorem dX7_groupOf_29 : decode cX7_groupOf 29 = .ok (.ifCond .eq 18, 3) := by decide +kernel
theorem dX7_groupOf_32 : decode cX7_groupOf 32 = .ok (.aload_n 0, 1) := by decide +kernel
theorem dX7_groupOf_33 : decode cX7_groupOf 33 = .ok (.iload 6, 2) := by decide +kernel
theorem dX7_groupOf_35 : decode cX7_groupOf 35 = .ok (.iload_n 2, 1) := by decide +kernel
theorem dX7_groupOf_36 : decode cX7_groupOf 36 = .ok (.invokevirtual 65, 3) := by decide +kernel
theorem dX7_groupOf_39 : decode cX7_groupOf 39 = .ok (.iload 4, 2) := by decide +kernel
theorem dX7_groupOf_41 : decode cX7_groupOf 41 = .ok (.if_icmp .ne 6, 3) := by decide +kernel
theorem dX7_groupOf_44 : decode cX7_groupOf 44 = .ok (.iinc 5 1, 3) := by decide +kernel
theorem dX7_groupOf_47 : decode cX7_groupOf 47 = .ok (.iinc 6 1, 3) := by decide +kernel
theorem dX7_groupOf_50 : decode cX7_groupOf 50 = .ok (.goto (-36), 3) := by decide +kernel
theorem dX7_groupOf_53 : decode cX7_groupOf 53 = .ok (.iload 5, 2) := by decide +kernel
theorem dX7_groupOf_55 : decode cX7_groupOf 55 = .ok (.ireturn, 1) := by decide +kernel
theorem dX8_init_0 : decode cX8_init 0 = .ok (.aload_n 0, 1) := by decide +kernel
theorem dX8_init_1 : decode cX8_init 1 = .ok (.invokespecial 1, 3) := by decide +kernel
theorem dX8_init_4 : decode cX8_init 4 = .ok (.aload_n 0, 1) := by decide +kernel
theorem dX8_init_5 : decode cX8_init 5 = .ok (.new 7, 3) := by decide +kernel
theorem dX8_init_8 : decode cX8_init 8 = .ok (.dup, 1) := by decide +kernel
theorem dX8_init_9 : decode cX8_init 9 = .ok (.invokespecial 9, 3) := by decide +kernel
theorem dX8_init_12 : decode cX8_init 12 = .ok (.putfield 10, 3) := by decide +kernel
theorem dX8_init_15 : decode cX8_init 15 = .ok (.aload_n 0, 1) := by decide +kernel
theorem dX8_init_16 : decode cX8_init 16 = .ok (.new 7, 3) := by decide +kernel
theorem dX8_init_19 : decode cX8_init 19 = .ok (.dup, 1) := by decide +kernel
theorem dX8_init_20 : decode cX8_init 20 = .ok (.invokespecial 9, 3) := by decide +kernel
theorem dX8_init_23 : decode cX8_init 23 = .ok (.putfield 16, 3) := by decide +kernel
theorem dX8_init_26 : decode cX8_init 26 = .ok (.aload_n 0, 1) := by decide +kernel
theorem dX8_init_27 : decode cX8_init 27 = .ok (.new 19, 3) := by decide +kernel
theorem dX8_init_30 : decode cX8_init 30 = .ok (.dup, 1) := by decide +kernel
theorem dX8_init_31 : decode cX8_init 31 = .ok (.invokespecial 21, 3) := by decide +kernel
theorem dX8_init_34 : decode cX8_init 34 = .ok (.putfield 22, 3) := by decide +kernel
theorem dX8_init_37 : decode cX8_init 37 = .ok (.aload_n 0, 1) := by decide +kernel
theorem dX8_init_38 : decode cX8_init 38 = .ok (.new 26, 3) := by decide +kernel
theorem dX8_init_41 : decode cX8_init 41 = .ok (.dup, 1) := by decide +kernel
theorem dX8_init_42 : decode cX8_init 42 = .ok (.invokespecial 28, 3) := by decide +kernel
theorem dX8_init_45 : decode cX8_init 45 = .ok (.putfield 29, 3) := by decide +kernel
theorem dX8_init_48 : decode cX8_init 48 = .ok (.aload_n 0, 1) := by decide +kernel
theorem dX8_init_49 : decode cX8_init 49 = .ok (.iconst 0, 1) := by decide +kernel
theorem dX8_init_50 : decode cX8_init 50 = .ok (.putfield 33, 3) := by decide +kernel
theorem dX8_init_53 : decode cX8_init 53 = .ok (.return_, 1) := by decide +kernel
theorem dX8_word_0 : decode cX8_word 0 = .ok (.aload_n 0, 1) := by decide +kernel
theorem dX8_word_1 : decode cX8_word 1 = .ok (.getfield 10, 3) := by decide +kernel
theorem dX8_word_4 : decode cX8_word 4 = .ok (.getfield 37, 3) := by decide +kernel
theorem dX8_word_7 : decode cX8_word 7 = .ok (.iload_n 1, 1) := by decide +kernel
theorem dX8_word_8 : decode cX8_word 8 = .ok (.invokevirtual 41, 3) := by decide +kernel
theorem dX8_word_11 : decode cX8_word 11 = .ok (.ifCond .eq 13, 3) := by decide +kernel
theorem dX8_word_14 : decode cX8_word 14 = .ok (.iload_n 2, 1) := by decide +kernel
theorem dX8_word_15 : decode cX8_word 15 = .ok (.iconst 1, 1) := by decide +kernel
theorem dX8_word_16 : decode cX8_word 16 = .ok (.bipush 99, 2) := by decide +kernel
theorem dX8_word_18 : decode cX8_word 18 = .ok (.invokestatic 47, 3) := by decide +kernel
theorem dX8_word_21 : decode cX8_word 21 = .ok (.ifCond .ne 5, 3) := by decide +kernel
theorem dX8_word_24 : decode cX8_word 24 = .ok (.iconst (-1), 1) := by decide +kernel
theorem dX8_word_25 : decode cX8_word 25 = .ok (.ireturn, 1) := by decide +kernel
theorem dX8_word_26 : decode cX8_word 26 = .ok (.aload_n 0, 1) := by decide +kernel
theorem dX8_word_27 : decode cX8_word 27 = .ok (.getfield 10, 3) := by decide +kernel
theorem dX8_word_30 : decode cX8_word 30 = .ok (.getfield 51, 3) := by decide +kernel
theorem dX8_word_33 : decode cX8_word 33 = .ok (.getfield 55, 3) := by decide +kernel
theorem dX8_word_36 : decode cX8_word 36 = .ok (.ifCond .eq 6, 3) := by decide +kernel
theorem dX8_word_39 : decode cX8_word 39 = .ok (.bipush (-2), 2) := by decide +kernel
theorem dX8_word_41 : decode cX8_word 41 = .ok (.ireturn, 1) := by decide +kernel
theorem dX8_word_42 : decode cX8_word 42 = .ok (.aload_n 0, 1) := by decide +kernel
theorem dX8_word_43 : decode cX8_word 43 = .ok (.getfield 22, 3) := by decide +kernel
theorem dX8_word_46 : decode cX8_word 46 = .ok (.aload_n 0, 1) := by decide +kernel
theorem dX8_word_47 : decode cX8_word 47 = .ok (.getfield 10, 3) := by decide +kernel
theorem dX8_word_50 : decode cX8_word 50 = .ok (.invokevirtual 60, 3) := by decide +kernel
theorem dX8_word_53 : decode cX8_word 53 = .ok (.aload_n 0, 1) := by decide +kernel
theorem dX8_word_54 : decode cX8_word 54 = .ok (.getfield 10, 3) := by decide +kernel
theorem dX8_word_57 : decode cX8_word 57 = .ok (.getfield 37, 3) := by decide +kernel
theorem dX8_word_60 : decode cX8_word 60 = .ok (.getfield 64, 3) := by decide +kernel
theorem dX8_word_63 : decode cX8_word 63 = .ok (.iload_n 1, 1) := by decide +kernel
theorem dX8_word_64 : decode cX8_word 64 = .ok (.invokevirtual 68, 3) := by decide +kernel
theorem dX8_word_67 : decode cX8_word 67 = .ok (.istore_n 3, 1) := by decide +kernel
theorem dX8_word_68 : decode cX8_word 68 = .ok (.aload_n 0, 1) := by decide +kernel
theorem dX8_word_69 : decode cX8_word 69 = .ok (.getfield 10, 3) := by decide +kernel
theorem dX8_word_72 : decode cX8_word 72 = .ok (.getfield 37, 3) := by decide +kernel
theorem dX8_word_75 : decode cX8_word 75 = .ok (.getfield 64, 3) := by decide +kernel
theorem dX8_word_78 : decode cX8_word 78 = .ok (.iload_n 1, 1) := by decide +kernel
theorem dX8_word_79 : decode cX8_word 79 = .ok (.iload_n 2, 1) := by decide +kernel
theorem dX8_word_80 : decode cX8_word 80 = .ok (.invokevirtual 74, 3) := by decide +kernel
theorem dX8_word_83 : decode cX8_word 83 = .ok (.iload_n 3, 1) := by decide +kernel
theorem dX8_word_84 : decode cX8_word 84 = .ok (.ireturn, 1) := by decide +kernel
theorem dX8_seat_0 : decode cX8_seat 0 = .ok (.iload_n 1, 1) := by decide +kernel
theorem dX8_seat_1 : decode cX8_seat 1 = .ok (.iconst 0, 1) := by decide +kernel
theorem dX8_seat_2 : decode cX8_seat 2 = .ok (.sipush 999, 3) := by decide +kernel
theorem dX8_seat_5 : decode cX8_seat 5 = .ok (.invokestatic 47, 3) := by decide +kernel
theorem dX8_seat_8 : decode cX8_seat 8 = .ok (.ifCond .ne 5, 3) := by decide +kernel
theorem dX8_seat_11 : decode cX8_seat 11 = .ok (.iconst (-1), 1) := by decide +kernel
theorem dX8_seat_12 : decode cX8_seat 12 = .ok (.ireturn, 1) := by decide +kernel
theorem dX8_seat_13 : decode cX8_seat 13 = .ok (.aload_n 0, 1) := by decide +kernel
theorem dX8_seat_14 : decode cX8_seat 14 = .ok (.getfield 10, 3) := by decide +kernel
theorem dX8_seat_17 : decode cX8_seat 17 = .ok (.getfield 51, 3) := by decide +kernel
theorem dX8_seat_20 : decode cX8_seat 20 = .ok (.getfield 55, 3) := by decide +kernel
theorem dX8_seat_23 : decode cX8_seat 23 = .ok (.ifCond .eq 6, 3) := by decide +kernel
theorem dX8_seat_26 : decode cX8_seat 26 = .ok (.bipush (-2), 2) := by decide +kernel
theorem dX8_seat_28 : decode cX8_seat 28 = .ok (.ireturn, 1) := by decide +kernel
theorem dX8_seat_29 : decode cX8_seat 29 = .ok (.aload_n 0, 1) := by decide +kernel
theorem dX8_seat_30 : decode cX8_seat 30 = .ok (.getfield 10, 3) := by decide +kernel
theorem dX8_seat_33 : decode cX8_seat 33 = .ok (.getfield 78, 3) := by decide +kernel
theorem dX8_seat_36 : decode cX8_seat 36 = .ok (.getfield 82, 3) := by decide +kernel
theorem dX8_seat_39 : decode cX8_seat 39 = .ok (.iconst 5, 1) := by decide +kernel
theorem dX8_seat_40 : decode cX8_seat 40 = .ok (.if_icmp .lt 6, 3) := by decide +kernel
theorem dX8_seat_43 : decode cX8_seat 43 = .ok (.bipush (-3), 2) := by decide +kernel
theorem dX8_seat_45 : decode cX8_seat 45 = .ok (.ireturn, 1) := by decide +kernel
theorem dX8_seat_46 : decode cX8_seat 46 = .ok (.aload_n 0, 1) := by decide +kernel
theorem dX8_seat_47 : decode cX8_seat 47 = .ok (.getfield 22, 3) := by decide +kernel
theorem dX8_seat_50 : decode cX8_seat 50 = .ok (.aload_n 0, 1) := by decide +kernel
theorem dX8_seat_51 : decode cX8_seat 51 = .ok (.getfield 10, 3) := by decide +kernel
theorem dX8_seat_54 : decode cX8_seat 54 = .ok (.invokevirtual 60, 3) := by decide +kernel
theorem dX8_seat_57 : decode cX8_seat 57 = .ok (.aload_n 0, 1) := by decide +kernel
theorem dX8_seat_58 : decode cX8_seat 58 = .ok (.getfield 10, 3) := by decide +kernel
theorem dX8_seat_61 : decode cX8_seat 61 = .ok (.getfield 78, 3) := by decide +kernel
theorem dX8_seat_64 : decode cX8_seat 64 = .ok (.iload_n 1, 1) := by decide +kernel
theorem dX8_seat_65 : decode cX8_seat 65 = .ok (.invokevirtual 88, 3) := by decide +kernel
theorem dX8_seat_68 : decode cX8_seat 68 = .ok (.ireturn, 1) := by decide +kernel
theorem dX8_lend_0 : decode cX8_lend 0 = .ok (.aload_n 0, 1) := by decide +kernel
theorem dX8_lend_1 : decode cX8_lend 1 = .ok (.getfield 10, 3) := by decide +kernel
theorem dX8_lend_4 : decode cX8_lend 4 = .ok (.getfield 78, 3) := by decide +kernel
theorem dX8_lend_7 : decode cX8_lend 7 = .ok (.iload_n 1, 1) := by decide +kernel
theorem dX8_lend_8 : decode cX8_lend 8 = .ok (.invokevirtual 91, 3) := by decide +kernel
theorem dX8_lend_11 : decode cX8_lend 11 = .ok (.ifCond .eq 33, 3) := by decide +kernel
theorem dX8_lend_14 : decode cX8_lend 14 = .ok (.aload_n 0, 1) := by decide +kernel
theorem dX8_lend_15 : decode cX8_lend 15 = .ok (.getfield 10, 3) := by decide +kernel
theorem dX8_lend_18 : decode cX8_lend 18 = .ok (.getfield 78, 3) := by decide +kernel
theorem dX8_lend_21 : decode cX8_lend 21 = .ok (.iload_n 2, 1) := by decide +kernel
theorem dX8_lend_22 : decode cX8_lend 22 = .ok (.invokevirtual 91, 3) := by decide +kernel
theorem dX8_lend_25 : decode cX8_lend 25 = .ok (.ifCond .eq 19, 3) := by decide +kernel
theorem dX8_lend_28 : decode cX8_lend 28 = .ok (.iload_n 1, 1) := by decide +kernel
theorem dX8_lend_29 : decode cX8_lend 29 = .ok (.iload_n 2, 1) := by decide +kernel
theorem dX8_lend_30 : decode cX8_lend 30 = .ok (.if_icmp .eq 14, 3) := by decide +kernel
theorem dX8_lend_33 : decode cX8_lend 33 = .ok (.iload_n 3, 1) := by decide +kernel
theorem dX8_lend_34 : decode cX8_lend 34 = .ok (.iconst 1, 1) := by decide +kernel
theorem dX8_lend_35 : decode cX8_lend 35 = .ok (.sipush 999, 3) := by decide +kernel
theorem dX8_lend_38 : decode cX8_lend 38 = .ok (.invokestatic 47, 3) := by decide +kernel
theorem dX8_lend_41 : decode cX8_lend 41 = .ok (.ifCond .ne 5, 3) := by decide +kernel
theorem dX8_lend_44 : decode cX8_lend 44 = .ok (.iconst (-1), 1) := by decide +kernel
theorem dX8_lend_45 : decode cX8_lend 45 = .ok (.ireturn, 1) := by decide +kernel
theorem dX8_lend_46 : decode cX8_lend 46 = .ok (.aload_n 0, 1) := by decide +kernel
theorem dX8_lend_47 : decode cX8_lend 47 = .ok (.getfield 10, 3) := by decide +kernel
theorem dX8_lend_50 : decode cX8_lend 50 = .ok (.getfield 78, 3) := by decide +kernel
theorem dX8_lend_53 : decode cX8_lend 53 = .ok (.getfield 92, 3) := by decide +kernel
theorem dX8_lend_56 : decode cX8_lend 56 = .ok (.iload_n 1, 1) := by decide +kernel
theorem dX8_lend_57 : decode cX8_lend 57 = .ok (.invokevirtual 68, 3) := by decide +kernel
theorem dX8_lend_60 : decode cX8_lend 60 = .ok (.iload_n 3, 1) := by decide +kernel
theorem dX8_lend_61 : decode cX8_lend 61 = .ok (.if_icmp .ge 6, 3) := by decide +kernel
theorem dX8_lend_64 : decode cX8_lend 64 = .ok (.bipush (-2), 2) := by decide +kernel
theorem dX8_lend_66 : decode cX8_lend 66 = .ok (.ireturn, 1) := by decide +kernel
theorem dX8_lend_67 : decode cX8_lend 67 = .ok (.aload_n 0, 1) := by decide +kernel
theorem dX8_lend_68 : decode cX8_lend 68 = .ok (.getfield 22, 3) := by decide +kernel
theorem dX8_lend_71 : decode cX8_lend 71 = .ok (.aload_n 0, 1) := by decide +kernel
theorem dX8_lend_72 : decode cX8_lend 72 = .ok (.getfield 10, 3) := by decide +kernel
theorem dX8_lend_75 : decode cX8_lend 75 = .ok (.invokevirtual 60, 3) := by decide +kernel
theorem dX8_lend_78 : decode cX8_lend 78 = .ok (.aload_n 0, 1) := by decide +kernel
theorem dX8_lend_79 : decode cX8_lend 79 = .ok (.getfield 10, 3) := by decide +kernel
theorem dX8_lend_82 : decode cX8_lend 82 = .ok (.getfield 78, 3) := by decide +kernel
theorem dX8_lend_85 : decode cX8_lend 85 = .ok (.getfield 92, 3) := by decide +kernel
theorem dX8_lend_88 : decode cX8_lend 88 = .ok (.iload_n 1, 1) := by decide +kernel
theorem dX8_lend_89 : decode cX8_lend 89 = .ok (.iload_n 3, 1) := by decide +kernel
theorem dX8_lend_90 : decode cX8_lend 90 = .ok (.ineg, 1) := by decide +kernel
theorem dX8_lend_91 : decode cX8_lend 91 = .ok (.invokevirtual 95, 3) := by decide +kernel
theorem dX8_lend_94 : decode cX8_lend 94 = .ok (.aload_n 0, 1) := by decide +kernel
theorem dX8_lend_95 : decode cX8_lend 95 = .ok (.getfield 10, 3) := by decide +kernel
theorem dX8_lend_98 : decode cX8_lend 98 = .ok (.getfield 78, 3) := by decide +kernel
theorem dX8_lend_101 : decode cX8_lend 101 = .ok (.getfield 92, 3) := by decide +kernel
theorem dX8_lend_104 : decode cX8_lend 104 = .ok (.iload_n 2, 1) := by decide +kernel
theorem dX8_lend_105 : decode cX8_lend 105 = .ok (.iload_n 3, 1) := by decide +kernel
theorem dX8_lend_106 : decode cX8_lend 106 = .ok (.invokevirtual 95, 3) := by decide +kernel
theorem dX8_lend_109 : decode cX8_lend 109 = .ok (.aload_n 0, 1) := by decide +kernel
theorem dX8_lend_110 : decode cX8_lend 110 = .ok (.getfield 10, 3) := by decide +kernel
theorem dX8_lend_113 : decode cX8_lend 113 = .ok (.getfield 78, 3) := by decide +kernel
theorem dX8_lend_116 : decode cX8_lend 116 = .ok (.getfield 92, 3) := by decide +kernel
theorem dX8_lend_119 : decode cX8_lend 119 = .ok (.iload_n 1, 1) := by decide +kernel
theorem dX8_lend_120 : decode cX8_lend 120 = .ok (.invokevirtual 68, 3) := by decide +kernel
theorem dX8_lend_123 : decode cX8_lend 123 = .ok (.ireturn, 1) := by decide +kernel
theorem dX8_set_0 : decode cX8_set 0 = .ok (.iload_n 1, 1) := by decide +kernel
theorem dX8_set_1 : decode cX8_set 1 = .ok (.ifCond .ne 13, 3) := by decide +kernel
theorem dX8_set_4 : decode cX8_set 4 = .ok (.iload_n 2, 1) := by decide +kernel
theorem dX8_set_5 : decode cX8_set 5 = .ok (.iconst 1, 1) := by decide +kernel
theorem dX8_set_6 : decode cX8_set 6 = .ok (.bipush 12, 2) := by decide +kernel
theorem dX8_set_8 : decode cX8_set 8 = .ok (.invokestatic 47, 3) := by decide +kernel
