theorem dX0_init_0 : decode cX0_init 0 = .ok (.aload_n 0, 1) := by decide +kernel
theorem dX0_init_1 : decode cX0_init 1 = .ok (.invokespecial 3, 3) := by decide +kernel
theorem dX0_init_4 : decode cX0_init 4 = .ok (.aload_n 0, 1) := by decide +kernel
theorem dX0_init_5 : decode cX0_init 5 = .ok (.aconst_null, 1) := by decide +kernel
theorem dX0_init_6 : decode cX0_init 6 = .ok (.putfield 9, 3) := by decide +kernel
theorem dX0_init_9 : decode cX0_init 9 = .ok (.aload_n 0, 1) := by decide +kernel
theorem dX0_init_10 : decode cX0_init 10 = .ok (.aconst_null, 1) := by decide +kernel
theorem dX0_init_11 : decode cX0_init 11 = .ok (.putfield 15, 3) := by decide +kernel
theorem dX0_init_14 : decode cX0_init 14 = .ok (.aload_n 0, 1) := by decide +kernel
theorem dX0_init_15 : decode cX0_init 15 = .ok (.bipush 36, 2) := by decide +kernel
theorem dX0_init_17 : decode cX0_init 17 = .ok (.newarray .long, 2) := by decide +kernel
theorem dX0_init_19 : decode cX0_init 19 = .ok (.putfield 19, 3) := by decide +kernel
theorem dX0_init_22 : decode cX0_init 22 = .ok (.aload_n 0, 1) := by decide +kernel
theorem dX0_init_23 : decode cX0_init 23 = .ok (.iconst 4, 1) := by decide +kernel
theorem dX0_init_24 : decode cX0_init 24 = .ok (.newarray .int, 2) := by decide +kernel
theorem dX0_init_26 : decode cX0_init 26 = .ok (.putfield 23, 3) := by decide +kernel
theorem dX0_init_29 : decode cX0_init 29 = .ok (.aload_n 0, 1) := by decide +kernel
theorem dX0_init_30 : decode cX0_init 30 = .ok (.bipush 36, 2) := by decide +kernel
theorem dX0_init_32 : decode cX0_init 32 = .ok (.newarray .long, 2) := by decide +kernel
theorem dX0_init_34 : decode cX0_init 34 = .ok (.putfield 27, 3) := by decide +kernel
theorem dX0_init_37 : decode cX0_init 37 = .ok (.aload_n 0, 1) := by decide +kernel
theorem dX0_init_38 : decode cX0_init 38 = .ok (.iconst 0, 1) := by decide +kernel
theorem dX0_init_39 : decode cX0_init 39 = .ok (.putfield 30, 3) := by decide +kernel
theorem dX0_init_42 : decode cX0_init 42 = .ok (.return_, 1) := by decide +kernel
theorem dX0_isSoIn_0 : decode cX0_isSoIn 0 = .ok (.aload_n 0, 1) := by decide +kernel
theorem dX0_isSoIn_1 : decode cX0_isSoIn 1 = .ok (.aload_n 1, 1) := by decide +kernel
theorem dX0_isSoIn_2 : decode cX0_isSoIn 2 = .ok (.aload_n 2, 1) := by decide +kernel
theorem dX0_isSoIn_3 : decode cX0_isSoIn 3 = .ok (.lload_n 3, 1) := by decide +kernel
theorem dX0_isSoIn_4 : decode cX0_isSoIn 4 = .ok (.invokevirtual 34, 3) := by decide +kernel
theorem dX0_isSoIn_7 : decode cX0_isSoIn 7 = .ok (.aload_n 0, 1) := by decide +kernel
theorem dX0_isSoIn_8 : decode cX0_isSoIn 8 = .ok (.iconst 0, 1) := by decide +kernel
theorem dX0_isSoIn_9 : decode cX0_isSoIn 9 = .ok (.iconst 0, 1) := by decide +kernel
theorem dX0_isSoIn_10 : decode cX0_isSoIn 10 = .ok (.invokevirtual 38, 3) := by decide +kernel
theorem dX0_isSoIn_13 : decode cX0_isSoIn 13 = .ok (.lconst 0, 1) := by decide +kernel
theorem dX0_isSoIn_14 : decode cX0_isSoIn 14 = .ok (.lcmp, 1) := by decide +kernel
theorem dX0_isSoIn_15 : decode cX0_isSoIn 15 = .ok (.ifCond .eq 7, 3) := by decide +kernel
theorem dX0_isSoIn_18 : decode cX0_isSoIn 18 = .ok (.iconst 1, 1) := by decide +kernel
theorem dX0_isSoIn_19 : decode cX0_isSoIn 19 = .ok (.goto 4, 3) := by decide +kernel
theorem dX0_isSoIn_22 : decode cX0_isSoIn 22 = .ok (.iconst 0, 1) := by decide +kernel
theorem dX0_isSoIn_23 : decode cX0_isSoIn 23 = .ok (.ireturn, 1) := by decide +kernel
theorem dX0_soInWord_0 : decode cX0_soInWord 0 = .ok (.aload_n 0, 1) := by decide +kernel
theorem dX0_soInWord_1 : decode cX0_soInWord 1 = .ok (.aload_n 1, 1) := by decide +kernel
theorem dX0_soInWord_2 : decode cX0_soInWord 2 = .ok (.putfield 9, 3) := by decide +kernel
theorem dX0_soInWord_5 : decode cX0_soInWord 5 = .ok (.aload_n 0, 1) := by decide +kernel
theorem dX0_soInWord_6 : decode cX0_soInWord 6 = .ok (.aload_n 2, 1) := by decide +kernel
theorem dX0_soInWord_7 : decode cX0_soInWord 7 = .ok (.putfield 15, 3) := by decide +kernel
theorem dX0_soInWord_10 : decode cX0_soInWord 10 = .ok (.aload_n 0, 1) := by decide +kernel
theorem dX0_soInWord_11 : decode cX0_soInWord 11 = .ok (.iconst 0, 1) := by decide +kernel
theorem dX0_soInWord_12 : decode cX0_soInWord 12 = .ok (.putfield 30, 3) := by decide +kernel
theorem dX0_soInWord_15 : decode cX0_soInWord 15 = .ok (.iconst 0, 1) := by decide +kernel
theorem dX0_soInWord_16 : decode cX0_soInWord 16 = .ok (.istore 4, 2) := by decide +kernel
theorem dX0_soInWord_18 : decode cX0_soInWord 18 = .ok (.iload 4, 2) := by decide +kernel
theorem dX0_soInWord_20 : decode cX0_soInWord 20 = .ok (.aload_n 0, 1) := by decide +kernel
theorem dX0_soInWord_21 : decode cX0_soInWord 21 = .ok (.getfield 9, 3) := by decide +kernel
theorem dX0_soInWord_24 : decode cX0_soInWord 24 = .ok (.getfield 42, 3) := by decide +kernel
theorem dX0_soInWord_27 : decode cX0_soInWord 27 = .ok (.if_icmp .ge 36, 3) := by decide +kernel
theorem dX0_soInWord_30 : decode cX0_soInWord 30 = .ok (.iload 4, 2) := by decide +kernel
theorem dX0_soInWord_32 : decode cX0_soInWord 32 = .ok (.bipush 36, 2) := by decide +kernel
theorem dX0_soInWord_34 : decode cX0_soInWord 34 = .ok (.if_icmp .ge 29, 3) := by decide +kernel
theorem dX0_soInWord_37 : decode cX0_soInWord 37 = .ok (.aload_n 0, 1) := by decide +kernel
theorem dX0_soInWord_38 : decode cX0_soInWord 38 = .ok (.getfield 19, 3) := by decide +kernel
theorem dX0_soInWord_41 : decode cX0_soInWord 41 = .ok (.iload 4, 2) := by decide +kernel
theorem dX0_soInWord_43 : decode cX0_soInWord 43 = .ok (.aload_n 0, 1) := by decide +kernel
theorem dX0_soInWord_44 : decode cX0_soInWord 44 = .ok (.getfield 9, 3) := by decide +kernel
theorem dX0_soInWord_47 : decode cX0_soInWord 47 = .ok (.iload 4, 2) := by decide +kernel
theorem dX0_soInWord_49 : decode cX0_soInWord 49 = .ok (.invokevirtual 46, 3) := by decide +kernel
theorem dX0_soInWord_52 : decode cX0_soInWord 52 = .ok (.iload_n 3, 1) := by decide +kernel
theorem dX0_soInWord_53 : decode cX0_soInWord 53 = .ok (.invokestatic 50, 3) := by decide +kernel
theorem dX0_soInWord_56 : decode cX0_soInWord 56 = .ok (.lastore, 1) := by decide +kernel
theorem dX0_soInWord_57 : decode cX0_soInWord 57 = .ok (.iinc 4 1, 3) := by decide +kernel
theorem dX0_soInWord_60 : decode cX0_soInWord 60 = .ok (.goto (-42), 3) := by decide +kernel
theorem dX0_soInWord_63 : decode cX0_soInWord 63 = .ok (.aload_n 0, 1) := by decide +kernel
theorem dX0_soInWord_64 : decode cX0_soInWord 64 = .ok (.iconst 0, 1) := by decide +kernel
theorem dX0_soInWord_65 : decode cX0_soInWord 65 = .ok (.iconst 0, 1) := by decide +kernel
theorem dX0_soInWord_66 : decode cX0_soInWord 66 = .ok (.invokevirtual 38, 3) := by decide +kernel
theorem dX0_soInWord_69 : decode cX0_soInWord 69 = .ok (.lreturn, 1) := by decide +kernel
theorem dX0_takeWorld_0 : decode cX0_takeWorld 0 = .ok (.aload_n 0, 1) := by decide +kernel
theorem dX0_takeWorld_1 : decode cX0_takeWorld 1 = .ok (.aload_n 1, 1) := by decide +kernel
theorem dX0_takeWorld_2 : decode cX0_takeWorld 2 = .ok (.putfield 9, 3) := by decide +kernel
theorem dX0_takeWorld_5 : decode cX0_takeWorld 5 = .ok (.aload_n 0, 1) := by decide +kernel
theorem dX0_takeWorld_6 : decode cX0_takeWorld 6 = .ok (.aload_n 2, 1) := by decide +kernel
theorem dX0_takeWorld_7 : decode cX0_takeWorld 7 = .ok (.putfield 15, 3) := by decide +kernel
theorem dX0_takeWorld_10 : decode cX0_takeWorld 10 = .ok (.aload_n 0, 1) := by decide +kernel
theorem dX0_takeWorld_11 : decode cX0_takeWorld 11 = .ok (.iconst 0, 1) := by decide +kernel
theorem dX0_takeWorld_12 : decode cX0_takeWorld 12 = .ok (.putfield 30, 3) := by decide +kernel
theorem dX0_takeWorld_15 : decode cX0_takeWorld 15 = .ok (.iconst 0, 1) := by decide +kernel
theorem dX0_takeWorld_16 : decode cX0_takeWorld 16 = .ok (.istore 5, 2) := by decide +kernel
theorem dX0_takeWorld_18 : decode cX0_takeWorld 18 = .ok (.iload 5, 2) := by decide +kernel
theorem dX0_takeWorld_20 : decode cX0_takeWorld 20 = .ok (.aload_n 0, 1) := by decide +kernel
theorem dX0_takeWorld_21 : decode cX0_takeWorld 21 = .ok (.getfield 9, 3) := by decide +kernel
theorem dX0_takeWorld_24 : decode cX0_takeWorld 24 = .ok (.getfield 42, 3) := by decide +kernel
theorem dX0_takeWorld_27 : decode cX0_takeWorld 27 = .ok (.if_icmp .ge 48, 3) := by decide +kernel
theorem dX0_takeWorld_30 : decode cX0_takeWorld 30 = .ok (.iload 5, 2) := by decide +kernel
theorem dX0_takeWorld_32 : decode cX0_takeWorld 32 = .ok (.bipush 36, 2) := by decide +kernel
theorem dX0_takeWorld_34 : decode cX0_takeWorld 34 = .ok (.if_icmp .ge 41, 3) := by decide +kernel
theorem dX0_takeWorld_37 : decode cX0_takeWorld 37 = .ok (.aload_n 0, 1) := by decide +kernel
theorem dX0_takeWorld_38 : decode cX0_takeWorld 38 = .ok (.getfield 19, 3) := by decide +kernel
theorem dX0_takeWorld_41 : decode cX0_takeWorld 41 = .ok (.iload 5, 2) := by decide +kernel
theorem dX0_takeWorld_43 : decode cX0_takeWorld 43 = .ok (.lload_n 3, 1) := by decide +kernel
theorem dX0_takeWorld_44 : decode cX0_takeWorld 44 = .ok (.aload_n 0, 1) := by decide +kernel
theorem dX0_takeWorld_45 : decode cX0_takeWorld 45 = .ok (.getfield 9, 3) := by decide +kernel
theorem dX0_takeWorld_48 : decode cX0_takeWorld 48 = .ok (.iload 5, 2) := by decide +kernel
theorem dX0_takeWorld_50 : decode cX0_takeWorld 50 = .ok (.invokevirtual 46, 3) := by decide +kernel
theorem dX0_takeWorld_53 : decode cX0_takeWorld 53 = .ok (.lshr, 1) := by decide +kernel
theorem dX0_takeWorld_54 : decode cX0_takeWorld 54 = .ok (.lconst 1, 1) := by decide +kernel
theorem dX0_takeWorld_55 : decode cX0_takeWorld 55 = .ok (.land, 1) := by decide +kernel
theorem dX0_takeWorld_56 : decode cX0_takeWorld 56 = .ok (.lconst 0, 1) := by decide +kernel
theorem dX0_takeWorld_57 : decode cX0_takeWorld 57 = .ok (.lcmp, 1) := by decide +kernel
theorem dX0_takeWorld_58 : decode cX0_takeWorld 58 = .ok (.ifCond .ne 7, 3) := by decide +kernel
theorem dX0_takeWorld_61 : decode cX0_takeWorld 61 = .ok (.lconst 0, 1) := by decide +kernel
theorem dX0_takeWorld_62 : decode cX0_takeWorld 62 = .ok (.goto 6, 3) := by decide +kernel
theorem dX0_takeWorld_65 : decode cX0_takeWorld 65 = .ok (.ldc2_w 55, 3) := by decide +kernel
theorem dX0_takeWorld_68 : decode cX0_takeWorld 68 = .ok (.lastore, 1) := by decide +kernel
theorem dX0_takeWorld_69 : decode cX0_takeWorld 69 = .ok (.iinc 5 1, 3) := by decide +kernel
theorem dX0_takeWorld_72 : decode cX0_takeWorld 72 = .ok (.goto (-54), 3) := by decide +kernel
theorem dX0_takeWorld_75 : decode cX0_takeWorld 75 = .ok (.return_, 1) := by decide +kernel
theorem dX0_breakNumber_0 : decode cX0_breakNumber 0 = .ok (.aload_n 0, 1) := by decide +kernel
theorem dX0_breakNumber_1 : decode cX0_breakNumber 1 = .ok (.aload_n 1, 1) := by decide +kernel
theorem dX0_breakNumber_2 : decode cX0_breakNumber 2 = .ok (.aload_n 2, 1) := by decide +kernel
theorem dX0_breakNumber_3 : decode cX0_breakNumber 3 = .ok (.lload_n 3, 1) := by decide +kernel
theorem dX0_breakNumber_4 : decode cX0_breakNumber 4 = .ok (.invokevirtual 34, 3) := by decide +kernel
theorem dX0_breakNumber_7 : decode cX0_breakNumber 7 = .ok (.aload_n 0, 1) := by decide +kernel
theorem dX0_breakNumber_8 : decode cX0_breakNumber 8 = .ok (.getfield 15, 3) := by decide +kernel
theorem dX0_breakNumber_11 : decode cX0_breakNumber 11 = .ok (.invokevirtual 57, 3) := by decide +kernel
theorem dX0_breakNumber_14 : decode cX0_breakNumber 14 = .ok (.istore 6, 2) := by decide +kernel
theorem dX0_breakNumber_16 : decode cX0_breakNumber 16 = .ok (.iload 5, 2) := by decide +kernel
theorem dX0_breakNumber_18 : decode cX0_breakNumber 18 = .ok (.ifCond .lt 10, 3) := by decide +kernel
theorem dX0_breakNumber_21 : decode cX0_breakNumber 21 = .ok (.iload 5, 2) := by decide +kernel
theorem dX0_breakNumber_23 : decode cX0_breakNumber 23 = .ok (.iload 6, 2) := by decide +kernel
theorem dX0_breakNumber_25 : decode cX0_breakNumber 25 = .ok (.if_icmp .lt 5, 3) := by decide +kernel
theorem dX0_breakNumber_28 : decode cX0_breakNumber 28 = .ok (.iconst (-1), 1) := by decide +kernel
theorem dX0_breakNumber_29 : decode cX0_breakNumber 29 = .ok (.ireturn, 1) := by decide +kernel
theorem dX0_breakNumber_30 : decode cX0_breakNumber 30 = .ok (.iconst 1, 1) := by decide +kernel
theorem dX0_breakNumber_31 : decode cX0_breakNumber 31 = .ok (.istore 7, 2) := by decide +kernel
theorem dX0_breakNumber_33 : decode cX0_breakNumber 33 = .ok (.iconst 0, 1) := by decide +kernel
theorem dX0_breakNumber_34 : decode cX0_breakNumber 34 = .ok (.istore 8, 2) := by decide +kernel
theorem dX0_breakNumber_36 : decode cX0_breakNumber 36 = .ok (.iload 8, 2) := by decide +kernel
theorem dX0_breakNumber_38 : decode cX0_breakNumber 38 = .ok (.iload 6, 2) := by decide +kernel
theorem dX0_breakNumber_40 : decode cX0_breakNumber 40 = .ok (.if_icmp .ge 28, 3) := by decide +kernel
theorem dX0_breakNumber_43 : decode cX0_breakNumber 43 = .ok (.aload_n 0, 1) := by decide +kernel
theorem dX0_breakNumber_44 : decode cX0_breakNumber 44 = .ok (.getfield 23, 3) := by decide +kernel
theorem dX0_breakNumber_47 : decode cX0_breakNumber 47 = .ok (.iload 8, 2) := by decide +kernel
theorem dX0_breakNumber_49 : decode cX0_breakNumber 49 = .ok (.iconst 0, 1) := by decide +kernel
theorem dX0_breakNumber_50 : decode cX0_breakNumber 50 = .ok (.iastore, 1) := by decide +kernel
theorem dX0_breakNumber_51 : decode cX0_breakNumber 51 = .ok (.iload 7, 2) := by decide +kernel
theorem dX0_breakNumber_53 : decode cX0_breakNumber 53 = .ok (.aload_n 0, 1) := by decide +kernel
theorem dX0_breakNumber_54 : decode cX0_breakNumber 54 = .ok (.iload 8, 2) := by decide +kernel
theorem dX0_breakNumber_56 : decode cX0_breakNumber 56 = .ok (.invokevirtual 63, 3) := by decide +kernel
theorem dX0_breakNumber_59 : decode cX0_breakNumber 59 = .ok (.imul, 1) := by decide +kernel
theorem dX0_breakNumber_60 : decode cX0_breakNumber 60 = .ok (.istore 7, 2) := by decide +kernel
theorem dX0_breakNumber_62 : decode cX0_breakNumber 62 = .ok (.iinc 8 1, 3) := by decide +kernel
theorem dX0_breakNumber_65 : decode cX0_breakNumber 65 = .ok (.goto (-29), 3) := by decide +kernel
theorem dX0_breakNumber_68 : decode cX0_breakNumber 68 = .ok (.iconst 0, 1) := by decide +kernel
theorem dX0_breakNumber_69 : decode cX0_breakNumber 69 = .ok (.istore 8, 2) := by decide +kernel
theorem dX0_breakNumber_71 : decode cX0_breakNumber 71 = .ok (.iload 8, 2) := by decide +kernel
theorem dX0_breakNumber_73 : decode cX0_breakNumber 73 = .ok (.iload 7, 2) := by decide +kernel
theorem dX0_breakNumber_75 : decode cX0_breakNumber 75 = .ok (.if_icmp .ge 36, 3) := by decide +kernel
theorem dX0_breakNumber_78 : decode cX0_breakNumber 78 = .ok (.aload_n 0, 1) := by decide +kernel
theorem dX0_breakNumber_79 : decode cX0_breakNumber 79 = .ok (.iload 6, 2) := by decide +kernel
theorem dX0_breakNumber_81 : decode cX0_breakNumber 81 = .ok (.iload 6, 2) := by decide +kernel
theorem dX0_breakNumber_83 : decode cX0_breakNumber 83 = .ok (.invokevirtual 38, 3) := by decide +kernel
theorem dX0_breakNumber_86 : decode cX0_breakNumber 86 = .ok (.lconst 0, 1) := by decide +kernel
theorem dX0_breakNumber_87 : decode cX0_breakNumber 87 = .ok (.lcmp, 1) := by decide +kernel
theorem dX0_breakNumber_88 : decode cX0_breakNumber 88 = .ok (.ifCond .ne 11, 3) := by decide +kernel
theorem dX0_breakNumber_91 : decode cX0_breakNumber 91 = .ok (.aload_n 0, 1) := by decide +kernel
theorem dX0_breakNumber_92 : decode cX0_breakNumber 92 = .ok (.getfield 23, 3) := by decide +kernel
theorem dX0_breakNumber_95 : decode cX0_breakNumber 95 = .ok (.iload 5, 2) := by decide +kernel
theorem dX0_breakNumber_97 : decode cX0_breakNumber 97 = .ok (.iaload, 1) := by decide +kernel
theorem dX0_breakNumber_98 : decode cX0_breakNumber 98 = .ok (.ireturn, 1) := by decide +kernel
theorem dX0_breakNumber_99 : decode cX0_breakNumber 99 = .ok (.aload_n 0, 1) := by decide +kernel
theorem dX0_breakNumber_100 : decode cX0_breakNumber 100 = .ok (.iload 6, 2) := by decide +kernel
theorem dX0_breakNumber_102 : decode cX0_breakNumber 102 = .ok (.invokevirtual 66, 3) := by decide +kernel
theorem dX0_breakNumber_105 : decode cX0_breakNumber 105 = .ok (.iinc 8 1, 3) := by decide +kernel
theorem dX0_breakNumber_108 : decode cX0_breakNumber 108 = .ok (.goto (-37), 3) := by decide +kernel
theorem dX0_breakNumber_111 : decode cX0_breakNumber 111 = .ok (.iconst (-1), 1) := by decide +kernel
theorem dX0_breakNumber_112 : decode cX0_breakNumber 112 = .ok (.ireturn, 1) := by decide +kernel
theorem dX0_chooseNext_0 : decode cX0_chooseNext 0 = .ok (.iload_n 1, 1) := by decide +kernel
theorem dX0_chooseNext_1 : decode cX0_chooseNext 1 = .ok (.iconst 1, 1) := by decide +kernel
theorem dX0_chooseNext_2 : decode cX0_chooseNext 2 = .ok (.isub, 1) := by decide +kernel
theorem dX0_chooseNext_3 : decode cX0_chooseNext 3 = .ok (.istore_n 2, 1) := by decide +kernel
theorem dX0_chooseNext_4 : decode cX0_chooseNext 4 = .ok (.iload_n 2, 1) := by decide +kernel
theorem dX0_chooseNext_5 : decode cX0_chooseNext 5 = .ok (.ifCond .lt 41, 3) := by decide +kernel
theorem dX0_chooseNext_8 : decode cX0_chooseNext 8 = .ok (.aload_n 0, 1) := by decide +kernel
theorem dX0_chooseNext_9 : decode cX0_chooseNext 9 = .ok (.getfield 23, 3) := by decide +kernel
theorem dX0_chooseNext_12 : decode cX0_chooseNext 12 = .ok (.iload_n 2, 1) := by decide +kernel
theorem dX0_chooseNext_13 : decode cX0_chooseNext 13 = .ok (.dup2, 1) := by decide +kernel
theorem dX0_chooseNext_14 : decode cX0_chooseNext 14 = .ok (.iaload, 1) := by decide +kernel
theorem dX0_chooseNext_15 : decode cX0_chooseNext 15 = .ok (.iconst 1, 1) := by decide +kernel
theorem dX0_chooseNext_16 : decode cX0_chooseNext 16 = .ok (.iadd, 1) := by decide +kernel
theorem dX0_chooseNext_17 : decode cX0_chooseNext 17 = .ok (.iastore, 1) := by decide +kernel
theorem dX0_chooseNext_18 : decode cX0_chooseNext 18 = .ok (.aload_n 0, 1) := by decide +kernel
theorem dX0_chooseNext_19 : decode cX0_chooseNext 19 = .ok (.getfield 23, 3) := by decide +kernel
theorem dX0_chooseNext_22 : decode cX0_chooseNext 22 = .ok (.iload_n 2, 1) := by decide +kernel
theorem dX0_chooseNext_23 : decode cX0_chooseNext 23 = .ok (.iaload, 1) := by decide +kernel
theorem dX0_chooseNext_24 : decode cX0_chooseNext 24 = .ok (.aload_n 0, 1) := by decide +kernel
theorem dX0_chooseNext_25 : decode cX0_chooseNext 25 = .ok (.iload_n 2, 1) := by decide +kernel
theorem dX0_chooseNext_26 : decode cX0_chooseNext 26 = .ok (.invokevirtual 63, 3) := by decide +kernel
theorem dX0_chooseNext_29 : decode cX0_chooseNext 29 = .ok (.if_icmp .ge 4, 3) := by decide +kernel
theorem dX0_chooseNext_32 : decode cX0_chooseNext 32 = .ok (.return_, 1) := by decide +kernel
theorem dX0_chooseNext_33 : decode cX0_chooseNext 33 = .ok (.aload_n 0, 1) := by decide +kernel
theorem dX0_chooseNext_34 : decode cX0_chooseNext 34 = .ok (.getfield 23, 3) := by decide +kernel
theorem dX0_chooseNext_37 : decode cX0_chooseNext 37 = .ok (.iload_n 2, 1) := by decide +kernel
theorem dX0_chooseNext_38 : decode cX0_chooseNext 38 = .ok (.iconst 0, 1) := by decide +kernel
theorem dX0_chooseNext_39 : decode cX0_chooseNext 39 = .ok (.iastore, 1) := by decide +kernel
theorem dX0_chooseNext_40 : decode cX0_chooseNext 40 = .ok (.iinc 2 (-1), 3) := by decide +kernel
theorem dX0_chooseNext_43 : decode cX0_chooseNext 43 = .ok (.goto (-39), 3) := by decide +kernel
theorem dX0_chooseNext_46 : decode cX0_chooseNext 46 = .ok (.return_, 1) := by decide +kernel
theorem dX0_sizeAt_0 : decode cX0_sizeAt 0 = .ok (.aload_n 0, 1) := by decide +kernel
theorem dX0_sizeAt_1 : decode cX0_sizeAt 1 = .ok (.getfield 15, 3) := by decide +kernel
theorem dX0_sizeAt_4 : decode cX0_sizeAt 4 = .ok (.getfield 70, 3) := by decide +kernel
theorem dX0_sizeAt_7 : decode cX0_sizeAt 7 = .ok (.iload_n 1, 1) := by decide +kernel
theorem dX0_sizeAt_8 : decode cX0_sizeAt 8 = .ok (.iaload, 1) := by decide +kernel
theorem dX0_sizeAt_9 : decode cX0_sizeAt 9 = .ok (.istore_n 2, 1) := by decide +kernel
theorem dX0_sizeAt_10 : decode cX0_sizeAt 10 = .ok (.iload_n 2, 1) := by decide +kernel
theorem dX0_sizeAt_11 : decode cX0_sizeAt 11 = .ok (.ifCond .lt 20, 3) := by decide +kernel
theorem dX0_sizeAt_14 : decode cX0_sizeAt 14 = .ok (.iload_n 2, 1) := by decide +kernel
theorem dX0_sizeAt_15 : decode cX0_sizeAt 15 = .ok (.iconst 3, 1) := by decide +kernel
theorem dX0_sizeAt_16 : decode cX0_sizeAt 16 = .ok (.if_icmp .ge 15, 3) := by decide +kernel
theorem dX0_sizeAt_19 : decode cX0_sizeAt 19 = .ok (.aload_n 0, 1) := by decide +kernel
theorem dX0_sizeAt_20 : decode cX0_sizeAt 20 = .ok (.getfield 9, 3) := by decide +kernel
theorem dX0_sizeAt_23 : decode cX0_sizeAt 23 = .ok (.getfield 73, 3) := by decide +kernel
theorem dX0_sizeAt_26 : decode cX0_sizeAt 26 = .ok (.iload_n 2, 1) := by decide +kernel
theorem dX0_sizeAt_27 : decode cX0_sizeAt 27 = .ok (.iaload, 1) := by decide +kernel
theorem dX0_sizeAt_28 : decode cX0_sizeAt 28 = .ok (.goto 4, 3) := by decide +kernel
theorem dX0_sizeAt_31 : decode cX0_sizeAt 31 = .ok (.iconst 0, 1) := by decide +kernel
theorem dX0_sizeAt_32 : decode cX0_sizeAt 32 = .ok (.ireturn, 1) := by decide +kernel
theorem dX0_judged_0 : decode cX0_judged 0 = .ok (.iload_n 1, 1) := by decide +kernel
theorem dX0_judged_1 : decode cX0_judged 1 = .ok (.aload_n 0, 1) := by decide +kernel
theorem dX0_judged_2 : decode cX0_judged 2 = .ok (.getfield 15, 3) := by decide +kernel
theorem dX0_judged_5 : decode cX0_judged 5 = .ok (.getfield 76, 3) := by decide +kernel
theorem dX0_judged_8 : decode cX0_judged 8 = .ok (.if_icmp .ge 9, 3) := by decide +kernel
theorem dX0_judged_11 : decode cX0_judged 11 = .ok (.iload_n 2, 1) := by decide +kernel
theorem dX0_judged_12 : decode cX0_judged 12 = .ok (.bipush 40, 2) := by decide +kernel
theorem dX0_judged_14 : decode cX0_judged 14 = .ok (.if_icmp .le 5, 3) := by decide +kernel
theorem dX0_judged_17 : decode cX0_judged 17 = .ok (.lconst 0, 1) := by decide +kernel
theorem dX0_judged_18 : decode cX0_judged 18 = .ok (.lreturn, 1) := by decide +kernel
theorem dX0_judged_19 : decode cX0_judged 19 = .ok (.aload_n 0, 1) := by decide +kernel
theorem dX0_judged_20 : decode cX0_judged 20 = .ok (.getfield 15, 3) := by decide +kernel
theorem dX0_judged_23 : decode cX0_judged 23 = .ok (.getfield 79, 3) := by decide +kernel
theorem dX0_judged_26 : decode cX0_judged 26 = .ok (.iload_n 1, 1) := by decide +kernel
theorem dX0_judged_27 : decode cX0_judged 27 = .ok (.iaload, 1) := by decide +kernel
theorem dX0_judged_28 : decode cX0_judged 28 = .ok (.tableswitch 165 0 10 #[60, 60, 60, 60, 67, 67, 67, 67, 74, 111, 151], 60) := by decide +kernel
theorem dX0_judged_88 : decode cX0_judged 88 = .ok (.aload_n 0, 1) := by decide +kernel
theorem dX0_judged_89 : decode cX0_judged 89 = .ok (.iload_n 1, 1) := by decide +kernel
theorem dX0_judged_90 : decode cX0_judged 90 = .ok (.iload_n 2, 1) := by decide +kernel
theorem dX0_judged_91 : decode cX0_judged 91 = .ok (.invokevirtual 82, 3) := by decide +kernel
theorem dX0_judged_94 : decode cX0_judged 94 = .ok (.lreturn, 1) := by decide +kernel
theorem dX0_judged_95 : decode cX0_judged 95 = .ok (.aload_n 0, 1) := by decide +kernel
theorem dX0_judged_96 : decode cX0_judged 96 = .ok (.iload_n 1, 1) := by decide +kernel
theorem dX0_judged_97 : decode cX0_judged 97 = .ok (.iload_n 2, 1) := by decide +kernel
theorem dX0_judged_98 : decode cX0_judged 98 = .ok (.invokevirtual 85, 3) := by decide +kernel
theorem dX0_judged_101 : decode cX0_judged 101 = .ok (.lreturn, 1) := by decide +kernel
theorem dX0_judged_102 : decode cX0_judged 102 = .ok (.aload_n 0, 1) := by decide +kernel
theorem dX0_judged_103 : decode cX0_judged 103 = .ok (.aload_n 0, 1) := by decide +kernel
theorem dX0_judged_104 : decode cX0_judged 104 = .ok (.getfield 15, 3) := by decide +kernel
theorem dX0_judged_107 : decode cX0_judged 107 = .ok (.getfield 88, 3) := by decide +kernel
theorem dX0_judged_110 : decode cX0_judged 110 = .ok (.iload_n 1, 1) := by decide +kernel
theorem dX0_judged_111 : decode cX0_judged 111 = .ok (.iaload, 1) := by decide +kernel
theorem dX0_judged_112 : decode cX0_judged 112 = .ok (.invokevirtual 91, 3) := by decide +kernel
theorem dX0_judged_115 : decode cX0_judged 115 = .ok (.aload_n 0, 1) := by decide +kernel
theorem dX0_judged_116 : decode cX0_judged 116 = .ok (.aload_n 0, 1) := by decide +kernel
theorem dX0_judged_117 : decode cX0_judged 117 = .ok (.getfield 15, 3) := by decide +kernel
theorem dX0_judged_120 : decode cX0_judged 120 = .ok (.getfield 70, 3) := by decide +kernel
theorem dX0_judged_123 : decode cX0_judged 123 = .ok (.iload_n 1, 1) := by decide +kernel
theorem dX0_judged_124 : decode cX0_judged 124 = .ok (.iaload, 1) := by decide +kernel
theorem dX0_judged_125 : decode cX0_judged 125 = .ok (.invokevirtual 91, 3) := by decide +kernel
theorem dX0_judged_128 : decode cX0_judged 128 = .ok (.if_icmp .ne 9, 3) := by decide +kernel
theorem dX0_judged_131 : decode cX0_judged 131 = .ok (.ldc2_w 55, 3) := by decide +kernel
theorem dX0_judged_134 : decode cX0_judged 134 = .ok (.goto 4, 3) := by decide +kernel
theorem dX0_judged_137 : decode cX0_judged 137 = .ok (.lconst 0, 1) := by decide +kernel
theorem dX0_judged_138 : decode cX0_judged 138 = .ok (.lreturn, 1) := by decide +kernel
theorem dX0_judged_139 : decode cX0_judged 139 = .ok (.aload_n 0, 1) := by decide +kernel
theorem dX0_judged_140 : decode cX0_judged 140 = .ok (.aload_n 0, 1) := by decide +kernel
theorem dX0_judged_141 : decode cX0_judged 141 = .ok (.getfield 15, 3) := by decide +kernel
theorem dX0_judged_144 : decode cX0_judged 144 = .ok (.getfield 94, 3) := by decide +kernel
theorem dX0_judged_147 : decode cX0_judged 147 = .ok (.iload_n 1, 1) := by decide +kernel
theorem dX0_judged_148 : decode cX0_judged 148 = .ok (.iaload, 1) := by decide +kernel
theorem dX0_judged_149 : decode cX0_judged 149 = .ok (.aload_n 0, 1) := by decide +kernel
theorem dX0_judged_150 : decode cX0_judged 150 = .ok (.aload_n 0, 1) := by decide +kernel
theorem dX0_judged_151 : decode cX0_judged 151 = .ok (.getfield 15, 3) := by decide +kernel
theorem dX0_judged_154 : decode cX0_judged 154 = .ok (.getfield 88, 3) := by decide +kernel
theorem dX0_judged_157 : decode cX0_judged 157 = .ok (.iload_n 1, 1) := by decide +kernel
theorem dX0_judged_158 : decode cX0_judged 158 = .ok (.iaload, 1) := by decide +kernel
theorem dX0_judged_159 : decode cX0_judged 159 = .ok (.invokevirtual 91, 3) := by decide +kernel
theorem dX0_judged_162 : decode cX0_judged 162 = .ok (.aload_n 0, 1) := by decide +kernel
theorem dX0_judged_163 : decode cX0_judged 163 = .ok (.aload_n 0, 1) := by decide +kernel
theorem dX0_judged_164 : decode cX0_judged 164 = .ok (.getfield 15, 3) := by decide +kernel
theorem dX0_judged_167 : decode cX0_judged 167 = .ok (.getfield 70, 3) := by decide +kernel
theorem dX0_judged_170 : decode cX0_judged 170 = .ok (.iload_n 1, 1) := by decide +kernel
theorem dX0_judged_171 : decode cX0_judged 171 = .ok (.iaload, 1) := by decide +kernel
theorem dX0_judged_172 : decode cX0_judged 172 = .ok (.invokevirtual 91, 3) := by decide +kernel
theorem dX0_judged_175 : decode cX0_judged 175 = .ok (.invokevirtual 97, 3) := by decide +kernel
theorem dX0_judged_178 : decode cX0_judged 178 = .ok (.lreturn, 1) := by decide +kernel
theorem dX0_judged_179 : decode cX0_judged 179 = .ok (.aload_n 0, 1) := by decide +kernel
theorem dX0_judged_180 : decode cX0_judged 180 = .ok (.aload_n 0, 1) := by decide +kernel
theorem dX0_judged_181 : decode cX0_judged 181 = .ok (.getfield 15, 3) := by decide +kernel
theorem dX0_judged_184 : decode cX0_judged 184 = .ok (.getfield 94, 3) := by decide +kernel
theorem dX0_judged_187 : decode cX0_judged 187 = .ok (.iload_n 1, 1) := by decide +kernel
theorem dX0_judged_188 : decode cX0_judged 188 = .ok (.iaload, 1) := by decide +kernel
theorem dX0_judged_189 : decode cX0_judged 189 = .ok (.invokevirtual 101, 3) := by decide +kernel
theorem dX0_judged_192 : decode cX0_judged 192 = .ok (.lreturn, 1) := by decide +kernel
theorem dX0_judged_193 : decode cX0_judged 193 = .ok (.aload_n 0, 1) := by decide +kernel
theorem dX0_judged_194 : decode cX0_judged 194 = .ok (.aload_n 0, 1) := by decide +kernel
theorem dX0_judged_195 : decode cX0_judged 195 = .ok (.getfield 15, 3) := by decide +kernel
theorem dX0_judged_198 : decode cX0_judged 198 = .ok (.getfield 94, 3) := by decide +kernel
theorem dX0_judged_201 : decode cX0_judged 201 = .ok (.iload_n 1, 1) := by decide +kernel
theorem dX0_judged_202 : decode cX0_judged 202 = .ok (.iaload, 1) := by decide +kernel
theorem dX0_judged_203 : decode cX0_judged 203 = .ok (.aload_n 0, 1) := by decide +kernel
theorem dX0_judged_204 : decode cX0_judged 204 = .ok (.aload_n 0, 1) := by decide +kernel
theorem dX0_judged_205 : decode cX0_judged 205 = .ok (.getfield 15, 3) := by decide +kernel
theorem dX0_judged_208 : decode cX0_judged 208 = .ok (.getfield 88, 3) := by decide +kernel
theorem dX0_judged_211 : decode cX0_judged 211 = .ok (.iload_n 1, 1) := by decide +kernel
theorem dX0_judged_212 : decode cX0_judged 212 = .ok (.iaload, 1) := by decide +kernel
theorem dX0_judged_213 : decode cX0_judged 213 = .ok (.invokevirtual 91, 3) := by decide +kernel
theorem dX0_judged_216 : decode cX0_judged 216 = .ok (.aload_n 0, 1) := by decide +kernel
theorem dX0_judged_217 : decode cX0_judged 217 = .ok (.aload_n 0, 1) := by decide +kernel
theorem dX0_judged_218 : decode cX0_judged 218 = .ok (.getfield 15, 3) := by decide +kernel
theorem dX0_judged_221 : decode cX0_judged 221 = .ok (.getfield 70, 3) := by decide +kernel
theorem dX0_judged_224 : decode cX0_judged 224 = .ok (.iload_n 1, 1) := by decide +kernel
theorem dX0_judged_225 : decode cX0_judged 225 = .ok (.iaload, 1) := by decide +kernel
theorem dX0_judged_226 : decode cX0_judged 226 = .ok (.invokevirtual 91, 3) := by decide +kernel
theorem dX0_judged_229 : decode cX0_judged 229 = .ok (.invokevirtual 105, 3) := by decide +kernel
theorem dX0_judged_232 : decode cX0_judged 232 = .ok (.lreturn, 1) := by decide +kernel
theorem dX0_slot_0 : decode cX0_slot 0 = .ok (.iload_n 1, 1) := by decide +kernel
theorem dX0_slot_1 : decode cX0_slot 1 = .ok (.ifCond .lt 17, 3) := by decide +kernel
theorem dX0_slot_4 : decode cX0_slot 4 = .ok (.iload_n 1, 1) := by decide +kernel
theorem dX0_slot_5 : decode cX0_slot 5 = .ok (.iconst 4, 1) := by decide +kernel
theorem dX0_slot_6 : decode cX0_slot 6 = .ok (.if_icmp .ge 12, 3) := by decide +kernel
theorem dX0_slot_9 : decode cX0_slot 9 = .ok (.aload_n 0, 1) := by decide +kernel
theorem dX0_slot_10 : decode cX0_slot 10 = .ok (.getfield 23, 3) := by decide +kernel
theorem dX0_slot_13 : decode cX0_slot 13 = .ok (.iload_n 1, 1) := by decide +kernel
theorem dX0_slot_14 : decode cX0_slot 14 = .ok (.iaload, 1) := by decide +kernel
theorem dX0_slot_15 : decode cX0_slot 15 = .ok (.goto 4, 3) := by decide +kernel
theorem dX0_slot_18 : decode cX0_slot 18 = .ok (.iconst 0, 1) := by decide +kernel
theorem dX0_slot_19 : decode cX0_slot 19 = .ok (.ireturn, 1) := by decide +kernel
theorem dX0_joined_0 : decode cX0_joined 0 = .ok (.iload_n 1, 1) := by decide +kernel
theorem dX0_joined_1 : decode cX0_joined 1 = .ok (.iconst 1, 1) := by decide +kernel
theorem dX0_joined_2 : decode cX0_joined 2 = .ok (.iadd, 1) := by decide +kernel
theorem dX0_joined_3 : decode cX0_joined 3 = .ok (.aload_n 0, 1) := by decide +kernel
theorem dX0_joined_4 : decode cX0_joined 4 = .ok (.getfield 15, 3) := by decide +kernel
theorem dX0_joined_7 : decode cX0_joined 7 = .ok (.getfield 76, 3) := by decide +kernel
theorem dX0_joined_10 : decode cX0_joined 10 = .ok (.if_icmp .lt 5, 3) := by decide +kernel
theorem dX0_joined_13 : decode cX0_joined 13 = .ok (.lconst 0, 1) := by decide +kernel
theorem dX0_joined_14 : decode cX0_joined 14 = .ok (.lreturn, 1) := by decide +kernel
theorem dX0_joined_15 : decode cX0_joined 15 = .ok (.aload_n 0, 1) := by decide +kernel
theorem dX0_joined_16 : decode cX0_joined 16 = .ok (.iload_n 1, 1) := by decide +kernel
theorem dX0_joined_17 : decode cX0_joined 17 = .ok (.iconst 1, 1) := by decide +kernel
theorem dX0_joined_18 : decode cX0_joined 18 = .ok (.iadd, 1) := by decide +kernel
theorem dX0_joined_19 : decode cX0_joined 19 = .ok (.iload_n 2, 1) := by decide +kernel
theorem dX0_joined_20 : decode cX0_joined 20 = .ok (.iconst 1, 1) := by decide +kernel
theorem dX0_joined_21 : decode cX0_joined 21 = .ok (.iadd, 1) := by decide +kernel
theorem dX0_joined_22 : decode cX0_joined 22 = .ok (.invokevirtual 38, 3) := by decide +kernel
theorem dX0_joined_25 : decode cX0_joined 25 = .ok (.lstore_n 3, 1) := by decide +kernel
theorem dX0_joined_26 : decode cX0_joined 26 = .ok (.aload_n 0, 1) := by decide +kernel
theorem dX0_joined_27 : decode cX0_joined 27 = .ok (.getfield 15, 3) := by decide +kernel
theorem dX0_joined_30 : decode cX0_joined 30 = .ok (.getfield 108, 3) := by decide +kernel
theorem dX0_joined_33 : decode cX0_joined 33 = .ok (.iload_n 1, 1) := by decide +kernel
theorem dX0_joined_34 : decode cX0_joined 34 = .ok (.iconst 1, 1) := by decide +kernel
theorem dX0_joined_35 : decode cX0_joined 35 = .ok (.iadd, 1) := by decide +kernel
theorem dX0_joined_36 : decode cX0_joined 36 = .ok (.iaload, 1) := by decide +kernel
theorem dX0_joined_37 : decode cX0_joined 37 = .ok (.istore 5, 2) := by decide +kernel
theorem dX0_joined_39 : decode cX0_joined 39 = .ok (.aload_n 0, 1) := by decide +kernel
theorem dX0_joined_40 : decode cX0_joined 40 = .ok (.getfield 15, 3) := by decide +kernel
theorem dX0_joined_43 : decode cX0_joined 43 = .ok (.getfield 79, 3) := by decide +kernel
theorem dX0_joined_46 : decode cX0_joined 46 = .ok (.iload_n 1, 1) := by decide +kernel
theorem dX0_joined_47 : decode cX0_joined 47 = .ok (.iaload, 1) := by decide +kernel
theorem dX0_joined_48 : decode cX0_joined 48 = .ok (.tableswitch 82 4 6 #[28, 34, 56], 28) := by decide +kernel
theorem dX0_joined_76 : decode cX0_joined 76 = .ok (.lload_n 3, 1) := by decide +kernel
theorem dX0_joined_77 : decode cX0_joined 77 = .ok (.ldc2_w 55, 3) := by decide +kernel
theorem dX0_joined_80 : decode cX0_joined 80 = .ok (.lxor, 1) := by decide +kernel
theorem dX0_joined_81 : decode cX0_joined 81 = .ok (.lreturn, 1) := by decide +kernel
theorem dX0_joined_82 : decode cX0_joined 82 = .ok (.lload_n 3, 1) := by decide +kernel
theorem dX0_joined_83 : decode cX0_joined 83 = .ok (.lconst 0, 1) := by decide +kernel
theorem dX0_joined_84 : decode cX0_joined 84 = .ok (.lcmp, 1) := by decide +kernel
theorem dX0_joined_85 : decode cX0_joined 85 = .ok (.ifCond .ne 7, 3) := by decide +kernel
theorem dX0_joined_88 : decode cX0_joined 88 = .ok (.lconst 0, 1) := by decide +kernel
theorem dX0_joined_89 : decode cX0_joined 89 = .ok (.goto 14, 3) := by decide +kernel
theorem dX0_joined_92 : decode cX0_joined 92 = .ok (.lload_n 3, 1) := by decide +kernel
theorem dX0_joined_93 : decode cX0_joined 93 = .ok (.aload_n 0, 1) := by decide +kernel
theorem dX0_joined_94 : decode cX0_joined 94 = .ok (.iload 5, 2) := by decide +kernel
theorem dX0_joined_96 : decode cX0_joined 96 = .ok (.iload_n 2, 1) := by decide +kernel
theorem dX0_joined_97 : decode cX0_joined 97 = .ok (.iconst 1, 1) := by decide +kernel
theorem dX0_joined_98 : decode cX0_joined 98 = .ok (.iadd, 1) := by decide +kernel
theorem dX0_joined_99 : decode cX0_joined 99 = .ok (.invokevirtual 38, 3) := by decide +kernel
theorem dX0_joined_102 : decode cX0_joined 102 = .ok (.land, 1) := by decide +kernel
theorem dX0_joined_103 : decode cX0_joined 103 = .ok (.lreturn, 1) := by decide +kernel
theorem dX0_joined_104 : decode cX0_joined 104 = .ok (.lload_n 3, 1) := by decide +kernel
theorem dX0_joined_105 : decode cX0_joined 105 = .ok (.ldc2_w 55, 3) := by decide +kernel
theorem dX0_joined_108 : decode cX0_joined 108 = .ok (.lcmp, 1) := by decide +kernel
theorem dX0_joined_109 : decode cX0_joined 109 = .ok (.ifCond .ne 9, 3) := by decide +kernel
theorem dX0_joined_112 : decode cX0_joined 112 = .ok (.ldc2_w 55, 3) := by decide +kernel
theorem dX0_joined_115 : decode cX0_joined 115 = .ok (.goto 14, 3) := by decide +kernel
theorem dX0_joined_118 : decode cX0_joined 118 = .ok (.lload_n 3, 1) := by decide +kernel
theorem dX0_joined_119 : decode cX0_joined 119 = .ok (.aload_n 0, 1) := by decide +kernel
theorem dX0_joined_120 : decode cX0_joined 120 = .ok (.iload 5, 2) := by decide +kernel
theorem dX0_joined_122 : decode cX0_joined 122 = .ok (.iload_n 2, 1) := by decide +kernel
theorem dX0_joined_123 : decode cX0_joined 123 = .ok (.iconst 1, 1) := by decide +kernel
theorem dX0_joined_124 : decode cX0_joined 124 = .ok (.iadd, 1) := by decide +kernel
theorem dX0_joined_125 : decode cX0_joined 125 = .ok (.invokevirtual 38, 3) := by decide +kernel
theorem dX0_joined_128 : decode cX0_joined 128 = .ok (.lor, 1) := by decide +kernel
theorem dX0_joined_129 : decode cX0_joined 129 = .ok (.lreturn, 1) := by decide +kernel
theorem dX0_joined_130 : decode cX0_joined 130 = .ok (.lload_n 3, 1) := by decide +kernel
theorem dX0_joined_131 : decode cX0_joined 131 = .ok (.lconst 0, 1) := by decide +kernel
theorem dX0_joined_132 : decode cX0_joined 132 = .ok (.lcmp, 1) := by decide +kernel
theorem dX0_joined_133 : decode cX0_joined 133 = .ok (.ifCond .ne 9, 3) := by decide +kernel
theorem dX0_joined_136 : decode cX0_joined 136 = .ok (.ldc2_w 55, 3) := by decide +kernel
theorem dX0_joined_139 : decode cX0_joined 139 = .ok (.goto 18, 3) := by decide +kernel
theorem dX0_joined_142 : decode cX0_joined 142 = .ok (.lload_n 3, 1) := by decide +kernel
theorem dX0_joined_143 : decode cX0_joined 143 = .ok (.ldc2_w 55, 3) := by decide +kernel
theorem dX0_joined_146 : decode cX0_joined 146 = .ok (.lxor, 1) := by decide +kernel
theorem dX0_joined_147 : decode cX0_joined 147 = .ok (.aload_n 0, 1) := by decide +kernel
theorem dX0_joined_148 : decode cX0_joined 148 = .ok (.iload 5, 2) := by decide +kernel
theorem dX0_joined_150 : decode cX0_joined 150 = .ok (.iload_n 2, 1) := by decide +kernel
theorem dX0_joined_151 : decode cX0_joined 151 = .ok (.iconst 1, 1) := by decide +kernel
theorem dX0_joined_152 : decode cX0_joined 152 = .ok (.iadd, 1) := by decide +kernel
theorem dX0_joined_153 : decode cX0_joined 153 = .ok (.invokevirtual 38, 3) := by decide +kernel
theorem dX0_joined_156 : decode cX0_joined 156 = .ok (.lor, 1) := by decide +kernel
theorem dX0_joined_157 : decode cX0_joined 157 = .ok (.lreturn, 1) := by decide +kernel
theorem dX0_counted_0 : decode cX0_counted 0 = .ok (.aload_n 0, 1) := by decide +kernel
theorem dX0_counted_1 : decode cX0_counted 1 = .ok (.iload_n 1, 1) := by decide +kernel
theorem dX0_counted_2 : decode cX0_counted 2 = .ok (.invokevirtual 63, 3) := by decide +kernel
theorem dX0_counted_5 : decode cX0_counted 5 = .ok (.istore_n 3, 1) := by decide +kernel
theorem dX0_counted_6 : decode cX0_counted 6 = .ok (.aload_n 0, 1) := by decide +kernel
theorem dX0_counted_7 : decode cX0_counted 7 = .ok (.getfield 15, 3) := by decide +kernel
theorem dX0_counted_10 : decode cX0_counted 10 = .ok (.getfield 88, 3) := by decide +kernel
theorem dX0_counted_13 : decode cX0_counted 13 = .ok (.iload_n 1, 1) := by decide +kernel
theorem dX0_counted_14 : decode cX0_counted 14 = .ok (.iaload, 1) := by decide +kernel
theorem dX0_counted_15 : decode cX0_counted 15 = .ok (.istore 4, 2) := by decide +kernel
theorem dX0_counted_17 : decode cX0_counted 17 = .ok (.iload 4, 2) := by decide +kernel
theorem dX0_counted_19 : decode cX0_counted 19 = .ok (.ifCond .lt 9, 3) := by decide +kernel
theorem dX0_counted_22 : decode cX0_counted 22 = .ok (.iload 4, 2) := by decide +kernel
theorem dX0_counted_24 : decode cX0_counted 24 = .ok (.iconst 4, 1) := by decide +kernel
theorem dX0_counted_25 : decode cX0_counted 25 = .ok (.if_icmp .lt 5, 3) := by decide +kernel
theorem dX0_counted_28 : decode cX0_counted 28 = .ok (.lconst 0, 1) := by decide +kernel
theorem dX0_counted_29 : decode cX0_counted 29 = .ok (.lreturn, 1) := by decide +kernel
theorem dX0_counted_30 : decode cX0_counted 30 = .ok (.lconst 0, 1) := by decide +kernel
theorem dX0_counted_31 : decode cX0_counted 31 = .ok (.lstore 5, 2) := by decide +kernel
theorem dX0_counted_33 : decode cX0_counted 33 = .ok (.lconst 0, 1) := by decide +kernel
theorem dX0_counted_34 : decode cX0_counted 34 = .ok (.lstore 7, 2) := by decide +kernel
theorem dX0_counted_36 : decode cX0_counted 36 = .ok (.lconst 0, 1) := by decide +kernel
theorem dX0_counted_37 : decode cX0_counted 37 = .ok (.lstore 9, 2) := by decide +kernel
theorem dX0_counted_39 : decode cX0_counted 39 = .ok (.iconst 0, 1) := by decide +kernel
theorem dX0_counted_40 : decode cX0_counted 40 = .ok (.istore 11, 2) := by decide +kernel
theorem dX0_counted_42 : decode cX0_counted 42 = .ok (.iload 11, 2) := by decide +kernel
theorem dX0_counted_44 : decode cX0_counted 44 = .ok (.iload_n 3, 1) := by decide +kernel
theorem dX0_counted_45 : decode cX0_counted 45 = .ok (.if_icmp .ge 57, 3) := by decide +kernel
theorem dX0_counted_48 : decode cX0_counted 48 = .ok (.aload_n 0, 1) := by decide +kernel
theorem dX0_counted_49 : decode cX0_counted 49 = .ok (.getfield 23, 3) := by decide +kernel
theorem dX0_counted_52 : decode cX0_counted 52 = .ok (.iload 4, 2) := by decide +kernel
theorem dX0_counted_54 : decode cX0_counted 54 = .ok (.iload 11, 2) := by decide +kernel
theorem dX0_counted_56 : decode cX0_counted 56 = .ok (.iastore, 1) := by decide +kernel
theorem dX0_counted_57 : decode cX0_counted 57 = .ok (.aload_n 0, 1) := by decide +kernel
theorem dX0_counted_58 : decode cX0_counted 58 = .ok (.iload_n 1, 1) := by decide +kernel
theorem dX0_counted_59 : decode cX0_counted 59 = .ok (.iconst 1, 1) := by decide +kernel
theorem dX0_counted_60 : decode cX0_counted 60 = .ok (.iadd, 1) := by decide +kernel
theorem dX0_counted_61 : decode cX0_counted 61 = .ok (.iload_n 2, 1) := by decide +kernel
theorem dX0_counted_62 : decode cX0_counted 62 = .ok (.iconst 1, 1) := by decide +kernel
theorem dX0_counted_63 : decode cX0_counted 63 = .ok (.iadd, 1) := by decide +kernel
theorem dX0_counted_64 : decode cX0_counted 64 = .ok (.invokevirtual 38, 3) := by decide +kernel
theorem dX0_counted_67 : decode cX0_counted 67 = .ok (.lstore 12, 2) := by decide +kernel
theorem dX0_counted_69 : decode cX0_counted 69 = .ok (.lload 9, 2) := by decide +kernel
theorem dX0_counted_71 : decode cX0_counted 71 = .ok (.lload 7, 2) := by decide +kernel
theorem dX0_counted_73 : decode cX0_counted 73 = .ok (.lload 12, 2) := by decide +kernel
theorem dX0_counted_75 : decode cX0_counted 75 = .ok (.land, 1) := by decide +kernel
theorem dX0_counted_76 : decode cX0_counted 76 = .ok (.lor, 1) := by decide +kernel
theorem dX0_counted_77 : decode cX0_counted 77 = .ok (.lstore 9, 2) := by decide +kernel
theorem dX0_counted_79 : decode cX0_counted 79 = .ok (.lload 7, 2) := by decide +kernel
theorem dX0_counted_81 : decode cX0_counted 81 = .ok (.lload 5, 2) := by decide +kernel
theorem dX0_counted_83 : decode cX0_counted 83 = .ok (.lload 12, 2) := by decide +kernel
theorem dX0_counted_85 : decode cX0_counted 85 = .ok (.land, 1) := by decide +kernel
theorem dX0_counted_86 : decode cX0_counted 86 = .ok (.lor, 1) := by decide +kernel
theorem dX0_counted_87 : decode cX0_counted 87 = .ok (.lstore 7, 2) := by decide +kernel
theorem dX0_counted_89 : decode cX0_counted 89 = .ok (.lload 5, 2) := by decide +kernel
theorem dX0_counted_91 : decode cX0_counted 91 = .ok (.lload 12, 2) := by decide +kernel
theorem dX0_counted_93 : decode cX0_counted 93 = .ok (.lor, 1) := by decide +kernel
theorem dX0_counted_94 : decode cX0_counted 94 = .ok (.lstore 5, 2) := by decide +kernel
theorem dX0_counted_96 : decode cX0_counted 96 = .ok (.iinc 11 1, 3) := by decide +kernel
theorem dX0_counted_99 : decode cX0_counted 99 = .ok (.goto (-57), 3) := by decide +kernel
theorem dX0_counted_102 : decode cX0_counted 102 = .ok (.aload_n 0, 1) := by decide +kernel
theorem dX0_counted_103 : decode cX0_counted 103 = .ok (.getfield 15, 3) := by decide +kernel
theorem dX0_counted_106 : decode cX0_counted 106 = .ok (.getfield 79, 3) := by decide +kernel
theorem dX0_counted_109 : decode cX0_counted 109 = .ok (.iload_n 1, 1) := by decide +kernel
theorem dX0_counted_110 : decode cX0_counted 110 = .ok (.iaload, 1) := by decide +kernel
theorem dX0_counted_111 : decode cX0_counted 111 = .ok (.tableswitch 58 0 2 #[25, 36, 39], 25) := by decide +kernel
theorem dX0_counted_136 : decode cX0_counted 136 = .ok (.iload_n 3, 1) := by decide +kernel
theorem dX0_counted_137 : decode cX0_counted 137 = .ok (.lload 5, 2) := by decide +kernel
theorem dX0_counted_139 : decode cX0_counted 139 = .ok (.lload 7, 2) := by decide +kernel
theorem dX0_counted_141 : decode cX0_counted 141 = .ok (.lload 9, 2) := by decide +kernel
theorem dX0_counted_143 : decode cX0_counted 143 = .ok (.invokestatic 111, 3) := by decide +kernel
theorem dX0_counted_146 : decode cX0_counted 146 = .ok (.lreturn, 1) := by decide +kernel
theorem dX0_counted_147 : decode cX0_counted 147 = .ok (.lload 5, 2) := by decide +kernel
theorem dX0_counted_149 : decode cX0_counted 149 = .ok (.lreturn, 1) := by decide +kernel
theorem dX0_counted_150 : decode cX0_counted 150 = .ok (.aload_n 0, 1) := by decide +kernel
theorem dX0_counted_151 : decode cX0_counted 151 = .ok (.getfield 15, 3) := by decide +kernel
theorem dX0_counted_154 : decode cX0_counted 154 = .ok (.getfield 94, 3) := by decide +kernel
theorem dX0_counted_157 : decode cX0_counted 157 = .ok (.iload_n 1, 1) := by decide +kernel
theorem dX0_counted_158 : decode cX0_counted 158 = .ok (.iaload, 1) := by decide +kernel
theorem dX0_counted_159 : decode cX0_counted 159 = .ok (.lload 5, 2) := by decide +kernel
theorem dX0_counted_161 : decode cX0_counted 161 = .ok (.lload 7, 2) := by decide +kernel
theorem dX0_counted_163 : decode cX0_counted 163 = .ok (.lload 9, 2) := by decide +kernel
theorem dX0_counted_165 : decode cX0_counted 165 = .ok (.invokestatic 111, 3) := by decide +kernel
theorem dX0_counted_168 : decode cX0_counted 168 = .ok (.lreturn, 1) := by decide +kernel
theorem dX0_counted_169 : decode cX0_counted 169 = .ok (.aload_n 0, 1) := by decide +kernel
theorem dX0_counted_170 : decode cX0_counted 170 = .ok (.getfield 15, 3) := by decide +kernel
theorem dX0_counted_173 : decode cX0_counted 173 = .ok (.getfield 94, 3) := by decide +kernel
theorem dX0_counted_176 : decode cX0_counted 176 = .ok (.iload_n 1, 1) := by decide +kernel
theorem dX0_counted_177 : decode cX0_counted 177 = .ok (.iaload, 1) := by decide +kernel
theorem dX0_counted_178 : decode cX0_counted 178 = .ok (.iconst 1, 1) := by decide +kernel
theorem dX0_counted_179 : decode cX0_counted 179 = .ok (.iadd, 1) := by decide +kernel
theorem dX0_counted_180 : decode cX0_counted 180 = .ok (.lload 5, 2) := by decide +kernel
theorem dX0_counted_182 : decode cX0_counted 182 = .ok (.lload 7, 2) := by decide +kernel
theorem dX0_counted_184 : decode cX0_counted 184 = .ok (.lload 9, 2) := by decide +kernel
theorem dX0_counted_186 : decode cX0_counted 186 = .ok (.invokestatic 111, 3) := by decide +kernel
theorem dX0_counted_189 : decode cX0_counted 189 = .ok (.ldc2_w 55, 3) := by decide +kernel
theorem dX0_counted_192 : decode cX0_counted 192 = .ok (.lxor, 1) := by decide +kernel
theorem dX0_counted_193 : decode cX0_counted 193 = .ok (.lreturn, 1) := by decide +kernel
theorem dX0_atLeast_0 : decode cX0_atLeast 0 = .ok (.iload_n 0, 1) := by decide +kernel
theorem dX0_atLeast_1 : decode cX0_atLeast 1 = .ok (.tableswitch 42 0 3 #[31, 35, 37, 39], 31) := by decide +kernel
theorem dX0_atLeast_32 : decode cX0_atLeast 32 = .ok (.ldc2_w 55, 3) := by decide +kernel
theorem dX0_atLeast_35 : decode cX0_atLeast 35 = .ok (.lreturn, 1) := by decide +kernel
theorem dX0_atLeast_36 : decode cX0_atLeast 36 = .ok (.lload_n 1, 1) := by decide +kernel
theorem dX0_atLeast_37 : decode cX0_atLeast 37 = .ok (.lreturn, 1) := by decide +kernel
theorem dX0_atLeast_38 : decode cX0_atLeast 38 = .ok (.lload_n 3, 1) := by decide +kernel
theorem dX0_atLeast_39 : decode cX0_atLeast 39 = .ok (.lreturn, 1) := by decide +kernel
theorem dX0_atLeast_40 : decode cX0_atLeast 40 = .ok (.lload 5, 2) := by decide +kernel
theorem dX0_atLeast_42 : decode cX0_atLeast 42 = .ok (.lreturn, 1) := by decide +kernel
theorem dX0_atLeast_43 : decode cX0_atLeast 43 = .ok (.lconst 0, 1) := by decide +kernel
theorem dX0_atLeast_44 : decode cX0_atLeast 44 = .ok (.lreturn, 1) := by decide +kernel
theorem dX0_factAt_0 : decode cX0_factAt 0 = .ok (.aload_n 0, 1) := by decide +kernel
theorem dX0_factAt_1 : decode cX0_factAt 1 = .ok (.getfield 9, 3) := by decide +kernel
theorem dX0_factAt_4 : decode cX0_factAt 4 = .ok (.iload_n 1, 1) := by decide +kernel
theorem dX0_factAt_5 : decode cX0_factAt 5 = .ok (.iload_n 2, 1) := by decide +kernel
theorem dX0_factAt_6 : decode cX0_factAt 6 = .ok (.iload_n 3, 1) := by decide +kernel
theorem dX0_factAt_7 : decode cX0_factAt 7 = .ok (.invokevirtual 115, 3) := by decide +kernel
theorem dX0_factAt_10 : decode cX0_factAt 10 = .ok (.istore 4, 2) := by decide +kernel
theorem dX0_factAt_12 : decode cX0_factAt 12 = .ok (.iload 4, 2) := by decide +kernel
theorem dX0_factAt_14 : decode cX0_factAt 14 = .ok (.ifCond .lt 20, 3) := by decide +kernel
theorem dX0_factAt_17 : decode cX0_factAt 17 = .ok (.iload 4, 2) := by decide +kernel
theorem dX0_factAt_19 : decode cX0_factAt 19 = .ok (.bipush 36, 2) := by decide +kernel
theorem dX0_factAt_21 : decode cX0_factAt 21 = .ok (.if_icmp .ge 13, 3) := by decide +kernel
theorem dX0_factAt_24 : decode cX0_factAt 24 = .ok (.aload_n 0, 1) := by decide +kernel
theorem dX0_factAt_25 : decode cX0_factAt 25 = .ok (.getfield 19, 3) := by decide +kernel
theorem dX0_factAt_28 : decode cX0_factAt 28 = .ok (.iload 4, 2) := by decide +kernel
theorem dX0_factAt_30 : decode cX0_factAt 30 = .ok (.laload, 1) := by decide +kernel
theorem dX0_factAt_31 : decode cX0_factAt 31 = .ok (.goto 4, 3) := by decide +kernel
theorem dX0_factAt_34 : decode cX0_factAt 34 = .ok (.lconst 0, 1) := by decide +kernel
theorem dX0_factAt_35 : decode cX0_factAt 35 = .ok (.lreturn, 1) := by decide +kernel
theorem dX0_reached_0 : decode cX0_reached 0 = .ok (.aload_n 0, 1) := by decide +kernel
theorem dX0_reached_1 : decode cX0_reached 1 = .ok (.getfield 9, 3) := by decide +kernel
theorem dX0_reached_4 : decode cX0_reached 4 = .ok (.iload_n 1, 1) := by decide +kernel
theorem dX0_reached_5 : decode cX0_reached 5 = .ok (.invokevirtual 119, 3) := by decide +kernel
theorem dX0_reached_8 : decode cX0_reached 8 = .ok (.ifCond .ne 5, 3) := by decide +kernel
theorem dX0_reached_11 : decode cX0_reached 11 = .ok (.lconst 0, 1) := by decide +kernel
theorem dX0_reached_12 : decode cX0_reached 12 = .ok (.lreturn, 1) := by decide +kernel
theorem dX0_reached_13 : decode cX0_reached 13 = .ok (.aload_n 0, 1) := by decide +kernel
theorem dX0_reached_14 : decode cX0_reached 14 = .ok (.iload_n 1, 1) := by decide +kernel
theorem dX0_reached_15 : decode cX0_reached 15 = .ok (.invokevirtual 123, 3) := by decide +kernel
theorem dX0_reached_18 : decode cX0_reached 18 = .ok (.aload_n 0, 1) := by decide +kernel
theorem dX0_reached_19 : decode cX0_reached 19 = .ok (.getfield 9, 3) := by decide +kernel
theorem dX0_reached_22 : decode cX0_reached 22 = .ok (.iload_n 1, 1) := by decide +kernel
theorem dX0_reached_23 : decode cX0_reached 23 = .ok (.iload_n 2, 1) := by decide +kernel
theorem dX0_reached_24 : decode cX0_reached 24 = .ok (.iload_n 3, 1) := by decide +kernel
theorem dX0_reached_25 : decode cX0_reached 25 = .ok (.invokevirtual 115, 3) := by decide +kernel
theorem dX0_reached_28 : decode cX0_reached 28 = .ok (.istore 4, 2) := by decide +kernel
theorem dX0_reached_30 : decode cX0_reached 30 = .ok (.iload 4, 2) := by decide +kernel
theorem dX0_reached_32 : decode cX0_reached 32 = .ok (.ifCond .lt 20, 3) := by decide +kernel
theorem dX0_reached_35 : decode cX0_reached 35 = .ok (.iload 4, 2) := by decide +kernel
theorem dX0_reached_37 : decode cX0_reached 37 = .ok (.bipush 36, 2) := by decide +kernel
theorem dX0_reached_39 : decode cX0_reached 39 = .ok (.if_icmp .ge 13, 3) := by decide +kernel
theorem dX0_reached_42 : decode cX0_reached 42 = .ok (.aload_n 0, 1) := by decide +kernel
theorem dX0_reached_43 : decode cX0_reached 43 = .ok (.getfield 27, 3) := by decide +kernel
theorem dX0_reached_46 : decode cX0_reached 46 = .ok (.iload 4, 2) := by decide +kernel
theorem dX0_reached_48 : decode cX0_reached 48 = .ok (.laload, 1) := by decide +kernel
theorem dX0_reached_49 : decode cX0_reached 49 = .ok (.goto 4, 3) := by decide +kernel
theorem dX0_reached_52 : decode cX0_reached 52 = .ok (.lconst 0, 1) := by decide +kernel
theorem dX0_reached_53 : decode cX0_reached 53 = .ok (.lreturn, 1) := by decide +kernel
theorem dX0_treeLike_0 : decode cX0_treeLike 0 = .ok (.aload_n 0, 1) := by decide +kernel
theorem dX0_treeLike_1 : decode cX0_treeLike 1 = .ok (.getfield 9, 3) := by decide +kernel
theorem dX0_treeLike_4 : decode cX0_treeLike 4 = .ok (.iload_n 1, 1) := by decide +kernel
theorem dX0_treeLike_5 : decode cX0_treeLike 5 = .ok (.invokevirtual 119, 3) := by decide +kernel
theorem dX0_treeLike_8 : decode cX0_treeLike 8 = .ok (.ifCond .ne 5, 3) := by decide +kernel
theorem dX0_treeLike_11 : decode cX0_treeLike 11 = .ok (.lconst 0, 1) := by decide +kernel
theorem dX0_treeLike_12 : decode cX0_treeLike 12 = .ok (.lreturn, 1) := by decide +kernel
theorem dX0_treeLike_13 : decode cX0_treeLike 13 = .ok (.aload_n 0, 1) := by decide +kernel
theorem dX0_treeLike_14 : decode cX0_treeLike 14 = .ok (.iload_n 1, 1) := by decide +kernel
theorem dX0_treeLike_15 : decode cX0_treeLike 15 = .ok (.invokevirtual 123, 3) := by decide +kernel
theorem dX0_treeLike_18 : decode cX0_treeLike 18 = .ok (.aload_n 0, 1) := by decide +kernel
theorem dX0_treeLike_19 : decode cX0_treeLike 19 = .ok (.getfield 9, 3) := by decide +kernel
theorem dX0_treeLike_22 : decode cX0_treeLike 22 = .ok (.getfield 126, 3) := by decide +kernel
theorem dX0_treeLike_25 : decode cX0_treeLike 25 = .ok (.iload_n 1, 1) := by decide +kernel
theorem dX0_treeLike_26 : decode cX0_treeLike 26 = .ok (.iaload, 1) := by decide +kernel
theorem dX0_treeLike_27 : decode cX0_treeLike 27 = .ok (.istore_n 2, 1) := by decide +kernel
theorem dX0_treeLike_28 : decode cX0_treeLike 28 = .ok (.aload_n 0, 1) := by decide +kernel
theorem dX0_treeLike_29 : decode cX0_treeLike 29 = .ok (.getfield 9, 3) := by decide +kernel
theorem dX0_treeLike_32 : decode cX0_treeLike 32 = .ok (.getfield 129, 3) := by decide +kernel
theorem dX0_treeLike_35 : decode cX0_treeLike 35 = .ok (.iload_n 1, 1) := by decide +kernel
theorem dX0_treeLike_36 : decode cX0_treeLike 36 = .ok (.iaload, 1) := by decide +kernel
theorem dX0_treeLike_37 : decode cX0_treeLike 37 = .ok (.istore_n 3, 1) := by decide +kernel
theorem dX0_treeLike_38 : decode cX0_treeLike 38 = .ok (.lconst 0, 1) := by decide +kernel
theorem dX0_treeLike_39 : decode cX0_treeLike 39 = .ok (.lstore 4, 2) := by decide +kernel
theorem dX0_treeLike_41 : decode cX0_treeLike 41 = .ok (.iconst 0, 1) := by decide +kernel
theorem dX0_treeLike_42 : decode cX0_treeLike 42 = .ok (.istore 6, 2) := by decide +kernel
theorem dX0_treeLike_44 : decode cX0_treeLike 44 = .ok (.iload 6, 2) := by decide +kernel
theorem dX0_treeLike_46 : decode cX0_treeLike 46 = .ok (.iload_n 3, 1) := by decide +kernel
theorem dX0_treeLike_47 : decode cX0_treeLike 47 = .ok (.if_icmp .ge 79, 3) := by decide +kernel
theorem dX0_treeLike_50 : decode cX0_treeLike 50 = .ok (.lconst 0, 1) := by decide +kernel
theorem dX0_treeLike_51 : decode cX0_treeLike 51 = .ok (.lstore 7, 2) := by decide +kernel
theorem dX0_treeLike_53 : decode cX0_treeLike 53 = .ok (.iconst 0, 1) := by decide +kernel
theorem dX0_treeLike_54 : decode cX0_treeLike 54 = .ok (.istore 9, 2) := by decide +kernel
theorem dX0_treeLike_56 : decode cX0_treeLike 56 = .ok (.iload 9, 2) := by decide +kernel
theorem dX0_treeLike_58 : decode cX0_treeLike 58 = .ok (.iload_n 3, 1) := by decide +kernel
theorem dX0_treeLike_59 : decode cX0_treeLike 59 = .ok (.if_icmp .ge 42, 3) := by decide +kernel
theorem dX0_treeLike_62 : decode cX0_treeLike 62 = .ok (.aload_n 0, 1) := by decide +kernel
theorem dX0_treeLike_63 : decode cX0_treeLike 63 = .ok (.getfield 19, 3) := by decide +kernel
theorem dX0_treeLike_66 : decode cX0_treeLike 66 = .ok (.iload_n 2, 1) := by decide +kernel
theorem dX0_treeLike_67 : decode cX0_treeLike 67 = .ok (.iload 6, 2) := by decide +kernel
theorem dX0_treeLike_69 : decode cX0_treeLike 69 = .ok (.iload_n 3, 1) := by decide +kernel
theorem dX0_treeLike_70 : decode cX0_treeLike 70 = .ok (.imul, 1) := by decide +kernel
theorem dX0_treeLike_71 : decode cX0_treeLike 71 = .ok (.iadd, 1) := by decide +kernel
theorem dX0_treeLike_72 : decode cX0_treeLike 72 = .ok (.iload 9, 2) := by decide +kernel
theorem dX0_treeLike_74 : decode cX0_treeLike 74 = .ok (.iadd, 1) := by decide +kernel
theorem dX0_treeLike_75 : decode cX0_treeLike 75 = .ok (.laload, 1) := by decide +kernel
theorem dX0_treeLike_76 : decode cX0_treeLike 76 = .ok (.lstore 10, 2) := by decide +kernel
theorem dX0_treeLike_78 : decode cX0_treeLike 78 = .ok (.lload 4, 2) := by decide +kernel
theorem dX0_treeLike_80 : decode cX0_treeLike 80 = .ok (.lload 7, 2) := by decide +kernel
theorem dX0_treeLike_82 : decode cX0_treeLike 82 = .ok (.lload 10, 2) := by decide +kernel
theorem dX0_treeLike_84 : decode cX0_treeLike 84 = .ok (.land, 1) := by decide +kernel
theorem dX0_treeLike_85 : decode cX0_treeLike 85 = .ok (.lor, 1) := by decide +kernel
theorem dX0_treeLike_86 : decode cX0_treeLike 86 = .ok (.lstore 4, 2) := by decide +kernel
theorem dX0_treeLike_88 : decode cX0_treeLike 88 = .ok (.lload 7, 2) := by decide +kernel
theorem dX0_treeLike_90 : decode cX0_treeLike 90 = .ok (.lload 10, 2) := by decide +kernel
theorem dX0_treeLike_92 : decode cX0_treeLike 92 = .ok (.lor, 1) := by decide +kernel
theorem dX0_treeLike_93 : decode cX0_treeLike 93 = .ok (.lstore 7, 2) := by decide +kernel
theorem dX0_treeLike_95 : decode cX0_treeLike 95 = .ok (.iinc 9 1, 3) := by decide +kernel
theorem dX0_treeLike_98 : decode cX0_treeLike 98 = .ok (.goto (-42), 3) := by decide +kernel
theorem dX0_treeLike_101 : decode cX0_treeLike 101 = .ok (.lload 4, 2) := by decide +kernel
theorem dX0_treeLike_103 : decode cX0_treeLike 103 = .ok (.aload_n 0, 1) := by decide +kernel
theorem dX0_treeLike_104 : decode cX0_treeLike 104 = .ok (.getfield 27, 3) := by decide +kernel
theorem dX0_treeLike_107 : decode cX0_treeLike 107 = .ok (.iload_n 2, 1) := by decide +kernel
theorem dX0_treeLike_108 : decode cX0_treeLike 108 = .ok (.iload 6, 2) := by decide +kernel
theorem dX0_treeLike_110 : decode cX0_treeLike 110 = .ok (.iload_n 3, 1) := by decide +kernel
theorem dX0_treeLike_111 : decode cX0_treeLike 111 = .ok (.imul, 1) := by decide +kernel
theorem dX0_treeLike_112 : decode cX0_treeLike 112 = .ok (.iadd, 1) := by decide +kernel
theorem dX0_treeLike_113 : decode cX0_treeLike 113 = .ok (.iload 6, 2) := by decide +kernel
theorem dX0_treeLike_115 : decode cX0_treeLike 115 = .ok (.iadd, 1) := by decide +kernel
theorem dX0_treeLike_116 : decode cX0_treeLike 116 = .ok (.laload, 1) := by decide +kernel
theorem dX0_treeLike_117 : decode cX0_treeLike 117 = .ok (.lor, 1) := by decide +kernel
theorem dX0_treeLike_118 : decode cX0_treeLike 118 = .ok (.lstore 4, 2) := by decide +kernel
theorem dX0_treeLike_120 : decode cX0_treeLike 120 = .ok (.iinc 6 1, 3) := by decide +kernel
theorem dX0_treeLike_123 : decode cX0_treeLike 123 = .ok (.goto (-79), 3) := by decide +kernel
theorem dX0_treeLike_126 : decode cX0_treeLike 126 = .ok (.lload 4, 2) := by decide +kernel
theorem dX0_treeLike_128 : decode cX0_treeLike 128 = .ok (.ldc2_w 55, 3) := by decide +kernel
theorem dX0_treeLike_131 : decode cX0_treeLike 131 = .ok (.lxor, 1) := by decide +kernel
theorem dX0_treeLike_132 : decode cX0_treeLike 132 = .ok (.lreturn, 1) := by decide +kernel
theorem dX0_findPaths_0 : decode cX0_findPaths 0 = .ok (.aload_n 0, 1) := by decide +kernel
theorem dX0_findPaths_1 : decode cX0_findPaths 1 = .ok (.getfield 30, 3) := by decide +kernel
theorem dX0_findPaths_4 : decode cX0_findPaths 4 = .ok (.iload_n 1, 1) := by decide +kernel
theorem dX0_findPaths_5 : decode cX0_findPaths 5 = .ok (.ishr, 1) := by decide +kernel
theorem dX0_findPaths_6 : decode cX0_findPaths 6 = .ok (.iconst 1, 1) := by decide +kernel
theorem dX0_findPaths_7 : decode cX0_findPaths 7 = .ok (.iand, 1) := by decide +kernel
theorem dX0_findPaths_8 : decode cX0_findPaths 8 = .ok (.ifCond .eq 4, 3) := by decide +kernel
theorem dX0_findPaths_11 : decode cX0_findPaths 11 = .ok (.return_, 1) := by decide +kernel
theorem dX0_findPaths_12 : decode cX0_findPaths 12 = .ok (.aload_n 0, 1) := by decide +kernel
theorem dX0_findPaths_13 : decode cX0_findPaths 13 = .ok (.dup, 1) := by decide +kernel
theorem dX0_findPaths_14 : decode cX0_findPaths 14 = .ok (.getfield 30, 3) := by decide +kernel
theorem dX0_findPaths_17 : decode cX0_findPaths 17 = .ok (.iconst 1, 1) := by decide +kernel
theorem dX0_findPaths_18 : decode cX0_findPaths 18 = .ok (.iload_n 1, 1) := by decide +kernel
theorem dX0_findPaths_19 : decode cX0_findPaths 19 = .ok (.ishl, 1) := by decide +kernel
theorem dX0_findPaths_20 : decode cX0_findPaths 20 = .ok (.ior, 1) := by decide +kernel
theorem dX0_findPaths_21 : decode cX0_findPaths 21 = .ok (.putfield 30, 3) := by decide +kernel
theorem dX0_findPaths_24 : decode cX0_findPaths 24 = .ok (.aload_n 0, 1) := by decide +kernel
theorem dX0_findPaths_25 : decode cX0_findPaths 25 = .ok (.getfield 9, 3) := by decide +kernel
theorem dX0_findPaths_28 : decode cX0_findPaths 28 = .ok (.getfield 126, 3) := by decide +kernel
theorem dX0_findPaths_31 : decode cX0_findPaths 31 = .ok (.iload_n 1, 1) := by decide +kernel
theorem dX0_findPaths_32 : decode cX0_findPaths 32 = .ok (.iaload, 1) := by decide +kernel
theorem dX0_findPaths_33 : decode cX0_findPaths 33 = .ok (.istore_n 2, 1) := by decide +kernel
theorem dX0_findPaths_34 : decode cX0_findPaths 34 = .ok (.aload_n 0, 1) := by decide +kernel
theorem dX0_findPaths_35 : decode cX0_findPaths 35 = .ok (.getfield 9, 3) := by decide +kernel
theorem dX0_findPaths_38 : decode cX0_findPaths 38 = .ok (.getfield 129, 3) := by decide +kernel
theorem dX0_findPaths_41 : decode cX0_findPaths 41 = .ok (.iload_n 1, 1) := by decide +kernel
theorem dX0_findPaths_42 : decode cX0_findPaths 42 = .ok (.iaload, 1) := by decide +kernel
theorem dX0_findPaths_43 : decode cX0_findPaths 43 = .ok (.istore_n 3, 1) := by decide +kernel
theorem dX0_findPaths_44 : decode cX0_findPaths 44 = .ok (.aload_n 0, 1) := by decide +kernel
theorem dX0_findPaths_45 : decode cX0_findPaths 45 = .ok (.getfield 19, 3) := by decide +kernel
theorem dX0_findPaths_48 : decode cX0_findPaths 48 = .ok (.iload_n 2, 1) := by decide +kernel
theorem dX0_findPaths_49 : decode cX0_findPaths 49 = .ok (.aload_n 0, 1) := by decide +kernel
theorem dX0_findPaths_50 : decode cX0_findPaths 50 = .ok (.getfield 27, 3) := by decide +kernel
theorem dX0_findPaths_53 : decode cX0_findPaths 53 = .ok (.iload_n 2, 1) := by decide +kernel
theorem dX0_findPaths_54 : decode cX0_findPaths 54 = .ok (.iload_n 3, 1) := by decide +kernel
theorem dX0_findPaths_55 : decode cX0_findPaths 55 = .ok (.iload_n 3, 1) := by decide +kernel
theorem dX0_findPaths_56 : decode cX0_findPaths 56 = .ok (.imul, 1) := by decide +kernel
theorem dX0_findPaths_57 : decode cX0_findPaths 57 = .ok (.invokestatic 132, 3) := by decide +kernel
theorem dX0_findPaths_60 : decode cX0_findPaths 60 = .ok (.iconst 0, 1) := by decide +kernel
theorem dX0_findPaths_61 : decode cX0_findPaths 61 = .ok (.istore 4, 2) := by decide +kernel
theorem dX0_findPaths_63 : decode cX0_findPaths 63 = .ok (.iload 4, 2) := by decide +kernel
theorem dX0_findPaths_65 : decode cX0_findPaths 65 = .ok (.iload_n 3, 1) := by decide +kernel
theorem dX0_findPaths_66 : decode cX0_findPaths 66 = .ok (.if_icmp .ge 89, 3) := by decide +kernel
theorem dX0_findPaths_69 : decode cX0_findPaths 69 = .ok (.iconst 0, 1) := by decide +kernel
theorem dX0_findPaths_70 : decode cX0_findPaths 70 = .ok (.istore 5, 2) := by decide +kernel
theorem dX0_findPaths_72 : decode cX0_findPaths 72 = .ok (.iload 5, 2) := by decide +kernel
theorem dX0_findPaths_74 : decode cX0_findPaths 74 = .ok (.iload_n 3, 1) := by decide +kernel
theorem dX0_findPaths_75 : decode cX0_findPaths 75 = .ok (.if_icmp .ge 74, 3) := by decide +kernel
theorem dX0_findPaths_78 : decode cX0_findPaths 78 = .ok (.aload_n 0, 1) := by decide +kernel
theorem dX0_findPaths_79 : decode cX0_findPaths 79 = .ok (.getfield 27, 3) := by decide +kernel
theorem dX0_findPaths_82 : decode cX0_findPaths 82 = .ok (.iload_n 2, 1) := by decide +kernel
theorem dX0_findPaths_83 : decode cX0_findPaths 83 = .ok (.iload 5, 2) := by decide +kernel
theorem dX0_findPaths_85 : decode cX0_findPaths 85 = .ok (.iload_n 3, 1) := by decide +kernel
theorem dX0_findPaths_86 : decode cX0_findPaths 86 = .ok (.imul, 1) := by decide +kernel
theorem dX0_findPaths_87 : decode cX0_findPaths 87 = .ok (.iadd, 1) := by decide +kernel
theorem dX0_findPaths_88 : decode cX0_findPaths 88 = .ok (.iload 4, 2) := by decide +kernel
theorem dX0_findPaths_90 : decode cX0_findPaths 90 = .ok (.iadd, 1) := by decide +kernel
theorem dX0_findPaths_91 : decode cX0_findPaths 91 = .ok (.laload, 1) := by decide +kernel
theorem dX0_findPaths_92 : decode cX0_findPaths 92 = .ok (.lstore 6, 2) := by decide +kernel
theorem dX0_findPaths_94 : decode cX0_findPaths 94 = .ok (.iconst 0, 1) := by decide +kernel
theorem dX0_findPaths_95 : decode cX0_findPaths 95 = .ok (.istore 8, 2) := by decide +kernel
theorem dX0_findPaths_97 : decode cX0_findPaths 97 = .ok (.iload 8, 2) := by decide +kernel
theorem dX0_findPaths_99 : decode cX0_findPaths 99 = .ok (.iload_n 3, 1) := by decide +kernel
theorem dX0_findPaths_100 : decode cX0_findPaths 100 = .ok (.if_icmp .ge 43, 3) := by decide +kernel
theorem dX0_findPaths_103 : decode cX0_findPaths 103 = .ok (.aload_n 0, 1) := by decide +kernel
theorem dX0_findPaths_104 : decode cX0_findPaths 104 = .ok (.getfield 27, 3) := by decide +kernel
theorem dX0_findPaths_107 : decode cX0_findPaths 107 = .ok (.iload_n 2, 1) := by decide +kernel
theorem dX0_findPaths_108 : decode cX0_findPaths 108 = .ok (.iload 5, 2) := by decide +kernel
theorem dX0_findPaths_110 : decode cX0_findPaths 110 = .ok (.iload_n 3, 1) := by decide +kernel
theorem dX0_findPaths_111 : decode cX0_findPaths 111 = .ok (.imul, 1) := by decide +kernel
theorem dX0_findPaths_112 : decode cX0_findPaths 112 = .ok (.iadd, 1) := by decide +kernel
theorem dX0_findPaths_113 : decode cX0_findPaths 113 = .ok (.iload 8, 2) := by decide +kernel
theorem dX0_findPaths_115 : decode cX0_findPaths 115 = .ok (.iadd, 1) := by decide +kernel
theorem dX0_findPaths_116 : decode cX0_findPaths 116 = .ok (.dup2, 1) := by decide +kernel
theorem dX0_findPaths_117 : decode cX0_findPaths 117 = .ok (.laload, 1) := by decide +kernel
theorem dX0_findPaths_118 : decode cX0_findPaths 118 = .ok (.lload 6, 2) := by decide +kernel
theorem dX0_findPaths_120 : decode cX0_findPaths 120 = .ok (.aload_n 0, 1) := by decide +kernel
theorem dX0_findPaths_121 : decode cX0_findPaths 121 = .ok (.getfield 27, 3) := by decide +kernel
theorem dX0_findPaths_124 : decode cX0_findPaths 124 = .ok (.iload_n 2, 1) := by decide +kernel
theorem dX0_findPaths_125 : decode cX0_findPaths 125 = .ok (.iload 4, 2) := by decide +kernel
theorem dX0_findPaths_127 : decode cX0_findPaths 127 = .ok (.iload_n 3, 1) := by decide +kernel
theorem dX0_findPaths_128 : decode cX0_findPaths 128 = .ok (.imul, 1) := by decide +kernel
theorem dX0_findPaths_129 : decode cX0_findPaths 129 = .ok (.iadd, 1) := by decide +kernel
theorem dX0_findPaths_130 : decode cX0_findPaths 130 = .ok (.iload 8, 2) := by decide +kernel
theorem dX0_findPaths_132 : decode cX0_findPaths 132 = .ok (.iadd, 1) := by decide +kernel
theorem dX0_findPaths_133 : decode cX0_findPaths 133 = .ok (.laload, 1) := by decide +kernel
theorem dX0_findPaths_134 : decode cX0_findPaths 134 = .ok (.land, 1) := by decide +kernel
theorem dX0_findPaths_135 : decode cX0_findPaths 135 = .ok (.lor, 1) := by decide +kernel
theorem dX0_findPaths_136 : decode cX0_findPaths 136 = .ok (.lastore, 1) := by decide +kernel
theorem dX0_findPaths_137 : decode cX0_findPaths 137 = .ok (.iinc 8 1, 3) := by decide +kernel
theorem dX0_findPaths_140 : decode cX0_findPaths 140 = .ok (.goto (-43), 3) := by decide +kernel
theorem dX0_findPaths_143 : decode cX0_findPaths 143 = .ok (.iinc 5 1, 3) := by decide +kernel
theorem dX0_findPaths_146 : decode cX0_findPaths 146 = .ok (.goto (-74), 3) := by decide +kernel
theorem dX0_findPaths_149 : decode cX0_findPaths 149 = .ok (.iinc 4 1, 3) := by decide +kernel
theorem dX0_findPaths_152 : decode cX0_findPaths 152 = .ok (.goto (-89), 3) := by decide +kernel
theorem dX0_findPaths_155 : decode cX0_findPaths 155 = .ok (.return_, 1) := by decide +kernel
theorem dX1_init_0 : decode cX1_init 0 = .ok (.aload_n 0, 1) := by decide +kernel
theorem dX1_init_1 : decode cX1_init 1 = .ok (.invokespecial 3, 3) := by decide +kernel
theorem dX1_init_4 : decode cX1_init 4 = .ok (.aload_n 0, 1) := by decide +kernel
theorem dX1_init_5 : decode cX1_init 5 = .ok (.iconst 3, 1) := by decide +kernel
theorem dX1_init_6 : decode cX1_init 6 = .ok (.newarray .int, 2) := by decide +kernel
theorem dX1_init_8 : decode cX1_init 8 = .ok (.putfield 9, 3) := by decide +kernel
theorem dX1_init_11 : decode cX1_init 11 = .ok (.aload_n 0, 1) := by decide +kernel
theorem dX1_init_12 : decode cX1_init 12 = .ok (.sipush 2592, 3) := by decide +kernel
theorem dX1_init_15 : decode cX1_init 15 = .ok (.newarray .int, 2) := by decide +kernel
theorem dX1_init_17 : decode cX1_init 17 = .ok (.putfield 15, 3) := by decide +kernel
theorem dX1_init_20 : decode cX1_init 20 = .ok (.aload_n 0, 1) := by decide +kernel
theorem dX1_init_21 : decode cX1_init 21 = .ok (.new 18, 3) := by decide +kernel
theorem dX1_init_24 : decode cX1_init 24 = .ok (.dup, 1) := by decide +kernel
theorem dX1_init_25 : decode cX1_init 25 = .ok (.invokespecial 20, 3) := by decide +kernel
theorem dX1_init_28 : decode cX1_init 28 = .ok (.putfield 21, 3) := by decide +kernel
theorem dX1_init_31 : decode cX1_init 31 = .ok (.aload_n 0, 1) := by decide +kernel
theorem dX1_init_32 : decode cX1_init 32 = .ok (.new 18, 3) := by decide +kernel
theorem dX1_init_35 : decode cX1_init 35 = .ok (.dup, 1) := by decide +kernel
theorem dX1_init_36 : decode cX1_init 36 = .ok (.invokespecial 20, 3) := by decide +kernel
theorem dX1_init_39 : decode cX1_init 39 = .ok (.putfield 25, 3) := by decide +kernel
theorem dX1_init_42 : decode cX1_init 42 = .ok (.aload_n 0, 1) := by decide +kernel
theorem dX1_init_43 : decode cX1_init 43 = .ok (.iconst 0, 1) := by decide +kernel
theorem dX1_init_44 : decode cX1_init 44 = .ok (.putfield 28, 3) := by decide +kernel
theorem dX1_init_47 : decode cX1_init 47 = .ok (.aload_n 0, 1) := by decide +kernel
theorem dX1_init_48 : decode cX1_init 48 = .ok (.iconst 0, 1) := by decide +kernel
theorem dX1_init_49 : decode cX1_init 49 = .ok (.putfield 32, 3) := by decide +kernel
theorem dX1_init_52 : decode cX1_init 52 = .ok (.aload_n 0, 1) := by decide +kernel
theorem dX1_init_53 : decode cX1_init 53 = .ok (.iconst 0, 1) := by decide +kernel
theorem dX1_init_54 : decode cX1_init 54 = .ok (.putfield 35, 3) := by decide +kernel
theorem dX1_init_57 : decode cX1_init 57 = .ok (.aload_n 0, 1) := by decide +kernel
theorem dX1_init_58 : decode cX1_init 58 = .ok (.iconst 0, 1) := by decide +kernel
theorem dX1_init_59 : decode cX1_init 59 = .ok (.putfield 39, 3) := by decide +kernel
theorem dX1_init_62 : decode cX1_init 62 = .ok (.return_, 1) := by decide +kernel
theorem dX1_forget_0 : decode cX1_forget 0 = .ok (.aload_n 0, 1) := by decide +kernel
theorem dX1_forget_1 : decode cX1_forget 1 = .ok (.iconst 0, 1) := by decide +kernel
theorem dX1_forget_2 : decode cX1_forget 2 = .ok (.putfield 35, 3) := by decide +kernel
theorem dX1_forget_5 : decode cX1_forget 5 = .ok (.aload_n 0, 1) := by decide +kernel
theorem dX1_forget_6 : decode cX1_forget 6 = .ok (.iconst 0, 1) := by decide +kernel
theorem dX1_forget_7 : decode cX1_forget 7 = .ok (.putfield 39, 3) := by decide +kernel
theorem dX1_forget_10 : decode cX1_forget 10 = .ok (.return_, 1) := by decide +kernel
theorem dX1_leastOnes_0 : decode cX1_leastOnes 0 = .ok (.aload_n 0, 1) := by decide +kernel
theorem dX1_leastOnes_1 : decode cX1_leastOnes 1 = .ok (.aload_n 1, 1) := by decide +kernel
theorem dX1_leastOnes_2 : decode cX1_leastOnes 2 = .ok (.invokevirtual 42, 3) := by decide +kernel
theorem dX1_leastOnes_5 : decode cX1_leastOnes 5 = .ok (.aload_n 0, 1) := by decide +kernel
theorem dX1_leastOnes_6 : decode cX1_leastOnes 6 = .ok (.getfield 39, 3) := by decide +kernel
theorem dX1_leastOnes_9 : decode cX1_leastOnes 9 = .ok (.ifCond .ne 12, 3) := by decide +kernel
theorem dX1_leastOnes_12 : decode cX1_leastOnes 12 = .ok (.aload_n 0, 1) := by decide +kernel
theorem dX1_leastOnes_13 : decode cX1_leastOnes 13 = .ok (.invokevirtual 46, 3) := by decide +kernel
theorem dX1_leastOnes_16 : decode cX1_leastOnes 16 = .ok (.aload_n 0, 1) := by decide +kernel
theorem dX1_leastOnes_17 : decode cX1_leastOnes 17 = .ok (.iconst 1, 1) := by decide +kernel
theorem dX1_leastOnes_18 : decode cX1_leastOnes 18 = .ok (.putfield 39, 3) := by decide +kernel
theorem dX1_leastOnes_21 : decode cX1_leastOnes 21 = .ok (.aload_n 0, 1) := by decide +kernel
theorem dX1_leastOnes_22 : decode cX1_leastOnes 22 = .ok (.getfield 21, 3) := by decide +kernel
theorem dX1_leastOnes_25 : decode cX1_leastOnes 25 = .ok (.areturn, 1) := by decide +kernel
theorem dX1_leastOf_0 : decode cX1_leastOf 0 = .ok (.aload_n 0, 1) := by decide +kernel
theorem dX1_leastOf_1 : decode cX1_leastOf 1 = .ok (.aload_n 1, 1) := by decide +kernel
theorem dX1_leastOf_2 : decode cX1_leastOf 2 = .ok (.invokevirtual 42, 3) := by decide +kernel
theorem dX1_leastOf_5 : decode cX1_leastOf 5 = .ok (.iload_n 2, 1) := by decide +kernel
theorem dX1_leastOf_6 : decode cX1_leastOf 6 = .ok (.istore_n 3, 1) := by decide +kernel
theorem dX1_leastOf_7 : decode cX1_leastOf 7 = .ok (.iconst 0, 1) := by decide +kernel
theorem dX1_leastOf_8 : decode cX1_leastOf 8 = .ok (.istore 4, 2) := by decide +kernel
theorem dX1_leastOf_10 : decode cX1_leastOf 10 = .ok (.iload 4, 2) := by decide +kernel
theorem dX1_leastOf_12 : decode cX1_leastOf 12 = .ok (.aload_n 0, 1) := by decide +kernel
theorem dX1_leastOf_13 : decode cX1_leastOf 13 = .ok (.getfield 28, 3) := by decide +kernel
theorem dX1_leastOf_16 : decode cX1_leastOf 16 = .ok (.if_icmp .ge 21, 3) := by decide +kernel
theorem dX1_leastOf_19 : decode cX1_leastOf 19 = .ok (.iload_n 3, 1) := by decide +kernel
theorem dX1_leastOf_20 : decode cX1_leastOf 20 = .ok (.aload_n 0, 1) := by decide +kernel
theorem dX1_leastOf_21 : decode cX1_leastOf 21 = .ok (.iload 4, 2) := by decide +kernel
theorem dX1_leastOf_23 : decode cX1_leastOf 23 = .ok (.iload_n 2, 1) := by decide +kernel
theorem dX1_leastOf_24 : decode cX1_leastOf 24 = .ok (.invokevirtual 49, 3) := by decide +kernel
theorem dX1_leastOf_27 : decode cX1_leastOf 27 = .ok (.invokestatic 53, 3) := by decide +kernel
theorem dX1_leastOf_30 : decode cX1_leastOf 30 = .ok (.istore_n 3, 1) := by decide +kernel
theorem dX1_leastOf_31 : decode cX1_leastOf 31 = .ok (.iinc 4 1, 3) := by decide +kernel
theorem dX1_leastOf_34 : decode cX1_leastOf 34 = .ok (.goto (-24), 3) := by decide +kernel
theorem dX1_leastOf_37 : decode cX1_leastOf 37 = .ok (.iload_n 3, 1) := by decide +kernel
theorem dX1_leastOf_38 : decode cX1_leastOf 38 = .ok (.ireturn, 1) := by decide +kernel
theorem dX1_fewestApart_0 : decode cX1_fewestApart 0 = .ok (.aload_n 0, 1) := by decide +kernel
theorem dX1_fewestApart_1 : decode cX1_fewestApart 1 = .ok (.aload_n 1, 1) := by decide +kernel
theorem dX1_fewestApart_2 : decode cX1_fewestApart 2 = .ok (.invokevirtual 42, 3) := by decide +kernel
theorem dX1_fewestApart_5 : decode cX1_fewestApart 5 = .ok (.bipush 12, 2) := by decide +kernel
theorem dX1_fewestApart_7 : decode cX1_fewestApart 7 = .ok (.istore 4, 2) := by decide +kernel
theorem dX1_fewestApart_9 : decode cX1_fewestApart 9 = .ok (.iconst 0, 1) := by decide +kernel
theorem dX1_fewestApart_10 : decode cX1_fewestApart 10 = .ok (.istore 5, 2) := by decide +kernel
theorem dX1_fewestApart_12 : decode cX1_fewestApart 12 = .ok (.iload 5, 2) := by decide +kernel
theorem dX1_fewestApart_14 : decode cX1_fewestApart 14 = .ok (.aload_n 0, 1) := by decide +kernel
theorem dX1_fewestApart_15 : decode cX1_fewestApart 15 = .ok (.getfield 28, 3) := by decide +kernel
theorem dX1_fewestApart_18 : decode cX1_fewestApart 18 = .ok (.if_icmp .ge 28, 3) := by decide +kernel
theorem dX1_fewestApart_21 : decode cX1_fewestApart 21 = .ok (.iload 4, 2) := by decide +kernel
theorem dX1_fewestApart_23 : decode cX1_fewestApart 23 = .ok (.iload_n 2, 1) := by decide +kernel
theorem dX1_fewestApart_24 : decode cX1_fewestApart 24 = .ok (.aload_n 0, 1) := by decide +kernel
theorem dX1_fewestApart_25 : decode cX1_fewestApart 25 = .ok (.iload 5, 2) := by decide +kernel
theorem dX1_fewestApart_27 : decode cX1_fewestApart 27 = .ok (.iload_n 3, 1) := by decide +kernel
theorem dX1_fewestApart_28 : decode cX1_fewestApart 28 = .ok (.invokevirtual 49, 3) := by decide +kernel
theorem dX1_fewestApart_31 : decode cX1_fewestApart 31 = .ok (.ixor, 1) := by decide +kernel
theorem dX1_fewestApart_32 : decode cX1_fewestApart 32 = .ok (.invokestatic 58, 3) := by decide +kernel
theorem dX1_fewestApart_35 : decode cX1_fewestApart 35 = .ok (.invokestatic 53, 3) := by decide +kernel
theorem dX1_fewestApart_38 : decode cX1_fewestApart 38 = .ok (.istore 4, 2) := by decide +kernel
theorem dX1_fewestApart_40 : decode cX1_fewestApart 40 = .ok (.iinc 5 1, 3) := by decide +kernel
theorem dX1_fewestApart_43 : decode cX1_fewestApart 43 = .ok (.goto (-31), 3) := by decide +kernel
theorem dX1_fewestApart_46 : decode cX1_fewestApart 46 = .ok (.iload 4, 2) := by decide +kernel
theorem dX1_fewestApart_48 : decode cX1_fewestApart 48 = .ok (.ireturn, 1) := by decide +kernel
theorem dX1_markLeastOnes_0 : decode cX1_markLeastOnes 0 = .ok (.aload_n 0, 1) := by decide +kernel
theorem dX1_markLeastOnes_1 : decode cX1_markLeastOnes 1 = .ok (.getfield 21, 3) := by decide +kernel
theorem dX1_markLeastOnes_4 : decode cX1_markLeastOnes 4 = .ok (.aload_n 0, 1) := by decide +kernel
theorem dX1_markLeastOnes_5 : decode cX1_markLeastOnes 5 = .ok (.getfield 32, 3) := by decide +kernel
theorem dX1_markLeastOnes_8 : decode cX1_markLeastOnes 8 = .ok (.invokevirtual 64, 3) := by decide +kernel
theorem dX1_markLeastOnes_11 : decode cX1_markLeastOnes 11 = .ok (.aload_n 0, 1) := by decide +kernel
theorem dX1_markLeastOnes_12 : decode cX1_markLeastOnes 12 = .ok (.getfield 25, 3) := by decide +kernel
theorem dX1_markLeastOnes_15 : decode cX1_markLeastOnes 15 = .ok (.aload_n 0, 1) := by decide +kernel
theorem dX1_markLeastOnes_16 : decode cX1_markLeastOnes 16 = .ok (.getfield 32, 3) := by decide +kernel
theorem dX1_markLeastOnes_19 : decode cX1_markLeastOnes 19 = .ok (.invokevirtual 64, 3) := by decide +kernel
theorem dX1_markLeastOnes_22 : decode cX1_markLeastOnes 22 = .ok (.iconst 0, 1) := by decide +kernel
theorem dX1_markLeastOnes_23 : decode cX1_markLeastOnes 23 = .ok (.istore_n 1, 1) := by decide +kernel
theorem dX1_markLeastOnes_24 : decode cX1_markLeastOnes 24 = .ok (.iload_n 1, 1) := by decide +kernel
theorem dX1_markLeastOnes_25 : decode cX1_markLeastOnes 25 = .ok (.aload_n 0, 1) := by decide +kernel
theorem dX1_markLeastOnes_26 : decode cX1_markLeastOnes 26 = .ok (.getfield 25, 3) := by decide +kernel
theorem dX1_markLeastOnes_29 : decode cX1_markLeastOnes 29 = .ok (.invokevirtual 68, 3) := by decide +kernel
theorem dX1_markLeastOnes_32 : decode cX1_markLeastOnes 32 = .ok (.if_icmp .ge 57, 3) := by decide +kernel
theorem dX1_markLeastOnes_35 : decode cX1_markLeastOnes 35 = .ok (.aload_n 0, 1) := by decide +kernel
theorem dX1_markLeastOnes_36 : decode cX1_markLeastOnes 36 = .ok (.getfield 25, 3) := by decide +kernel
theorem dX1_markLeastOnes_39 : decode cX1_markLeastOnes 39 = .ok (.iload_n 1, 1) := by decide +kernel
theorem dX1_markLeastOnes_40 : decode cX1_markLeastOnes 40 = .ok (.invokevirtual 72, 3) := by decide +kernel
theorem dX1_markLeastOnes_43 : decode cX1_markLeastOnes 43 = .ok (.ifCond .ne 40, 3) := by decide +kernel
theorem dX1_markLeastOnes_46 : decode cX1_markLeastOnes 46 = .ok (.aload_n 0, 1) := by decide +kernel
theorem dX1_markLeastOnes_47 : decode cX1_markLeastOnes 47 = .ok (.getfield 21, 3) := by decide +kernel
theorem dX1_markLeastOnes_50 : decode cX1_markLeastOnes 50 = .ok (.iload_n 1, 1) := by decide +kernel
theorem dX1_markLeastOnes_51 : decode cX1_markLeastOnes 51 = .ok (.invokevirtual 76, 3) := by decide +kernel
theorem dX1_markLeastOnes_54 : decode cX1_markLeastOnes 54 = .ok (.iconst 0, 1) := by decide +kernel
theorem dX1_markLeastOnes_55 : decode cX1_markLeastOnes 55 = .ok (.istore_n 2, 1) := by decide +kernel
theorem dX1_markLeastOnes_56 : decode cX1_markLeastOnes 56 = .ok (.iload_n 2, 1) := by decide +kernel
theorem dX1_markLeastOnes_57 : decode cX1_markLeastOnes 57 = .ok (.aload_n 0, 1) := by decide +kernel
theorem dX1_markLeastOnes_58 : decode cX1_markLeastOnes 58 = .ok (.getfield 28, 3) := by decide +kernel
theorem dX1_markLeastOnes_61 : decode cX1_markLeastOnes 61 = .ok (.if_icmp .ge 22, 3) := by decide +kernel
theorem dX1_markLeastOnes_64 : decode cX1_markLeastOnes 64 = .ok (.aload_n 0, 1) := by decide +kernel
theorem dX1_markLeastOnes_65 : decode cX1_markLeastOnes 65 = .ok (.getfield 25, 3) := by decide +kernel
theorem dX1_markLeastOnes_68 : decode cX1_markLeastOnes 68 = .ok (.aload_n 0, 1) := by decide +kernel
theorem dX1_markLeastOnes_69 : decode cX1_markLeastOnes 69 = .ok (.iload_n 2, 1) := by decide +kernel
theorem dX1_markLeastOnes_70 : decode cX1_markLeastOnes 70 = .ok (.iload_n 1, 1) := by decide +kernel
theorem dX1_markLeastOnes_71 : decode cX1_markLeastOnes 71 = .ok (.invokevirtual 49, 3) := by decide +kernel
theorem dX1_markLeastOnes_74 : decode cX1_markLeastOnes 74 = .ok (.invokevirtual 76, 3) := by decide +kernel
theorem dX1_markLeastOnes_77 : decode cX1_markLeastOnes 77 = .ok (.iinc 2 1, 3) := by decide +kernel
theorem dX1_markLeastOnes_80 : decode cX1_markLeastOnes 80 = .ok (.goto (-24), 3) := by decide +kernel
theorem dX1_markLeastOnes_83 : decode cX1_markLeastOnes 83 = .ok (.iinc 1 1, 3) := by decide +kernel
theorem dX1_markLeastOnes_86 : decode cX1_markLeastOnes 86 = .ok (.goto (-62), 3) := by decide +kernel
theorem dX1_markLeastOnes_89 : decode cX1_markLeastOnes 89 = .ok (.return_, 1) := by decide +kernel
theorem dX1_renumbered_0 : decode cX1_renumbered 0 = .ok (.iconst 0, 1) := by decide +kernel
theorem dX1_renumbered_1 : decode cX1_renumbered 1 = .ok (.istore_n 3, 1) := by decide +kernel
theorem dX1_renumbered_2 : decode cX1_renumbered 2 = .ok (.iconst 0, 1) := by decide +kernel
theorem dX1_renumbered_3 : decode cX1_renumbered 3 = .ok (.istore 4, 2) := by decide +kernel
theorem dX1_renumbered_5 : decode cX1_renumbered 5 = .ok (.iload 4, 2) := by decide +kernel
theorem dX1_renumbered_7 : decode cX1_renumbered 7 = .ok (.aload_n 0, 1) := by decide +kernel
theorem dX1_renumbered_8 : decode cX1_renumbered 8 = .ok (.getfield 32, 3) := by decide +kernel
theorem dX1_renumbered_11 : decode cX1_renumbered 11 = .ok (.if_icmp .ge 40, 3) := by decide +kernel
theorem dX1_renumbered_14 : decode cX1_renumbered 14 = .ok (.iload_n 2, 1) := by decide +kernel
theorem dX1_renumbered_15 : decode cX1_renumbered 15 = .ok (.aload_n 0, 1) := by decide +kernel
theorem dX1_renumbered_16 : decode cX1_renumbered 16 = .ok (.getfield 32, 3) := by decide +kernel
theorem dX1_renumbered_19 : decode cX1_renumbered 19 = .ok (.iconst 1, 1) := by decide +kernel
theorem dX1_renumbered_20 : decode cX1_renumbered 20 = .ok (.isub, 1) := by decide +kernel
theorem dX1_renumbered_21 : decode cX1_renumbered 21 = .ok (.iload 4, 2) := by decide +kernel
theorem dX1_renumbered_23 : decode cX1_renumbered 23 = .ok (.isub, 1) := by decide +kernel
theorem dX1_renumbered_24 : decode cX1_renumbered 24 = .ok (.ishr, 1) := by decide +kernel
theorem dX1_renumbered_25 : decode cX1_renumbered 25 = .ok (.iconst 1, 1) := by decide +kernel
theorem dX1_renumbered_26 : decode cX1_renumbered 26 = .ok (.iand, 1) := by decide +kernel
theorem dX1_renumbered_27 : decode cX1_renumbered 27 = .ok (.ifCond .eq 18, 3) := by decide +kernel
theorem dX1_renumbered_30 : decode cX1_renumbered 30 = .ok (.iload_n 3, 1) := by decide +kernel
theorem dX1_renumbered_31 : decode cX1_renumbered 31 = .ok (.aload_n 0, 1) := by decide +kernel
theorem dX1_renumbered_32 : decode cX1_renumbered 32 = .ok (.getfield 15, 3) := by decide +kernel
theorem dX1_renumbered_35 : decode cX1_renumbered 35 = .ok (.iload_n 1, 1) := by decide +kernel
theorem dX1_renumbered_36 : decode cX1_renumbered 36 = .ok (.bipush 12, 2) := by decide +kernel
theorem dX1_renumbered_38 : decode cX1_renumbered 38 = .ok (.imul, 1) := by decide +kernel
theorem dX1_renumbered_39 : decode cX1_renumbered 39 = .ok (.iload 4, 2) := by decide +kernel
theorem dX1_renumbered_41 : decode cX1_renumbered 41 = .ok (.iadd, 1) := by decide +kernel
theorem dX1_renumbered_42 : decode cX1_renumbered 42 = .ok (.iaload, 1) := by decide +kernel
theorem dX1_renumbered_43 : decode cX1_renumbered 43 = .ok (.ior, 1) := by decide +kernel
theorem dX1_renumbered_44 : decode cX1_renumbered 44 = .ok (.istore_n 3, 1) := by decide +kernel
theorem dX1_renumbered_45 : decode cX1_renumbered 45 = .ok (.iinc 4 1, 3) := by decide +kernel
theorem dX1_renumbered_48 : decode cX1_renumbered 48 = .ok (.goto (-43), 3) := by decide +kernel
theorem dX1_renumbered_51 : decode cX1_renumbered 51 = .ok (.iload_n 3, 1) := by decide +kernel
theorem dX1_renumbered_52 : decode cX1_renumbered 52 = .ok (.ireturn, 1) := by decide +kernel
theorem dX1_layOut_0 : decode cX1_layOut 0 = .ok (.aload_n 0, 1) := by decide +kernel
theorem dX1_layOut_1 : decode cX1_layOut 1 = .ok (.getfield 35, 3) := by decide +kernel
theorem dX1_layOut_4 : decode cX1_layOut 4 = .ok (.ifCond .ne 12, 3) := by decide +kernel
theorem dX1_layOut_7 : decode cX1_layOut 7 = .ok (.aload_n 1, 1) := by decide +kernel
theorem dX1_layOut_8 : decode cX1_layOut 8 = .ok (.getfield 79, 3) := by decide +kernel
theorem dX1_layOut_11 : decode cX1_layOut 11 = .ok (.bipush 12, 2) := by decide +kernel
theorem dX1_layOut_13 : decode cX1_layOut 13 = .ok (.if_icmp .le 4, 3) := by decide +kernel
theorem dX1_layOut_16 : decode cX1_layOut 16 = .ok (.return_, 1) := by decide +kernel
theorem dX1_layOut_17 : decode cX1_layOut 17 = .ok (.aload_n 0, 1) := by decide +kernel
theorem dX1_layOut_18 : decode cX1_layOut 18 = .ok (.iconst 1, 1) := by decide +kernel
theorem dX1_layOut_19 : decode cX1_layOut 19 = .ok (.putfield 35, 3) := by decide +kernel
theorem dX1_layOut_22 : decode cX1_layOut 22 = .ok (.aload_n 0, 1) := by decide +kernel
theorem dX1_layOut_23 : decode cX1_layOut 23 = .ok (.aload_n 1, 1) := by decide +kernel
theorem dX1_layOut_24 : decode cX1_layOut 24 = .ok (.getfield 79, 3) := by decide +kernel
theorem dX1_layOut_27 : decode cX1_layOut 27 = .ok (.putfield 32, 3) := by decide +kernel
theorem dX1_layOut_30 : decode cX1_layOut 30 = .ok (.aload_n 0, 1) := by decide +kernel
theorem dX1_layOut_31 : decode cX1_layOut 31 = .ok (.iconst 0, 1) := by decide +kernel
theorem dX1_layOut_32 : decode cX1_layOut 32 = .ok (.putfield 28, 3) := by decide +kernel
theorem dX1_layOut_35 : decode cX1_layOut 35 = .ok (.aload_n 1, 1) := by decide +kernel
theorem dX1_layOut_36 : decode cX1_layOut 36 = .ok (.iconst 0, 1) := by decide +kernel
theorem dX1_layOut_37 : decode cX1_layOut 37 = .ok (.invokestatic 82, 3) := by decide +kernel
theorem dX1_layOut_40 : decode cX1_layOut 40 = .ok (.istore_n 2, 1) := by decide +kernel
theorem dX1_layOut_41 : decode cX1_layOut 41 = .ok (.aload_n 1, 1) := by decide +kernel
theorem dX1_layOut_42 : decode cX1_layOut 42 = .ok (.iconst 1, 1) := by decide +kernel
theorem dX1_layOut_43 : decode cX1_layOut 43 = .ok (.invokestatic 82, 3) := by decide +kernel
theorem dX1_layOut_46 : decode cX1_layOut 46 = .ok (.istore_n 3, 1) := by decide +kernel
theorem dX1_layOut_47 : decode cX1_layOut 47 = .ok (.aload_n 1, 1) := by decide +kernel
theorem dX1_layOut_48 : decode cX1_layOut 48 = .ok (.iconst 2, 1) := by decide +kernel
theorem dX1_layOut_49 : decode cX1_layOut 49 = .ok (.invokestatic 82, 3) := by decide +kernel
theorem dX1_layOut_52 : decode cX1_layOut 52 = .ok (.istore 4, 2) := by decide +kernel
theorem dX1_layOut_54 : decode cX1_layOut 54 = .ok (.aload_n 0, 1) := by decide +kernel
theorem dX1_layOut_55 : decode cX1_layOut 55 = .ok (.getfield 9, 3) := by decide +kernel
theorem dX1_layOut_58 : decode cX1_layOut 58 = .ok (.iconst 0, 1) := by decide +kernel
theorem dX1_layOut_59 : decode cX1_layOut 59 = .ok (.iconst 0, 1) := by decide +kernel
theorem dX1_layOut_60 : decode cX1_layOut 60 = .ok (.iastore, 1) := by decide +kernel
theorem dX1_layOut_61 : decode cX1_layOut 61 = .ok (.aload_n 0, 1) := by decide +kernel
theorem dX1_layOut_62 : decode cX1_layOut 62 = .ok (.getfield 9, 3) := by decide +kernel
theorem dX1_layOut_65 : decode cX1_layOut 65 = .ok (.iconst 0, 1) := by decide +kernel
theorem dX1_layOut_66 : decode cX1_layOut 66 = .ok (.iaload, 1) := by decide +kernel
theorem dX1_layOut_67 : decode cX1_layOut 67 = .ok (.iload_n 2, 1) := by decide +kernel
theorem dX1_layOut_68 : decode cX1_layOut 68 = .ok (.if_icmp .ge 82, 3) := by decide +kernel
theorem dX1_layOut_71 : decode cX1_layOut 71 = .ok (.aload_n 0, 1) := by decide +kernel
theorem dX1_layOut_72 : decode cX1_layOut 72 = .ok (.getfield 9, 3) := by decide +kernel
theorem dX1_layOut_75 : decode cX1_layOut 75 = .ok (.iconst 1, 1) := by decide +kernel
theorem dX1_layOut_76 : decode cX1_layOut 76 = .ok (.iconst 0, 1) := by decide +kernel
theorem dX1_layOut_77 : decode cX1_layOut 77 = .ok (.iastore, 1) := by decide +kernel
theorem dX1_layOut_78 : decode cX1_layOut 78 = .ok (.aload_n 0, 1) := by decide +kernel
theorem dX1_layOut_79 : decode cX1_layOut 79 = .ok (.getfield 9, 3) := by decide +kernel
theorem dX1_layOut_82 : decode cX1_layOut 82 = .ok (.iconst 1, 1) := by decide +kernel
theorem dX1_layOut_83 : decode cX1_layOut 83 = .ok (.iaload, 1) := by decide +kernel
theorem dX1_layOut_84 : decode cX1_layOut 84 = .ok (.iload_n 3, 1) := by decide +kernel
theorem dX1_layOut_85 : decode cX1_layOut 85 = .ok (.if_icmp .ge 52, 3) := by decide +kernel
theorem dX1_layOut_88 : decode cX1_layOut 88 = .ok (.aload_n 0, 1) := by decide +kernel
theorem dX1_layOut_89 : decode cX1_layOut 89 = .ok (.getfield 9, 3) := by decide +kernel
theorem dX1_layOut_92 : decode cX1_layOut 92 = .ok (.iconst 2, 1) := by decide +kernel
theorem dX1_layOut_93 : decode cX1_layOut 93 = .ok (.iconst 0, 1) := by decide +kernel
theorem dX1_layOut_94 : decode cX1_layOut 94 = .ok (.iastore, 1) := by decide +kernel
theorem dX1_layOut_95 : decode cX1_layOut 95 = .ok (.aload_n 0, 1) := by decide +kernel
theorem dX1_layOut_96 : decode cX1_layOut 96 = .ok (.getfield 9, 3) := by decide +kernel
theorem dX1_layOut_99 : decode cX1_layOut 99 = .ok (.iconst 2, 1) := by decide +kernel
theorem dX1_layOut_100 : decode cX1_layOut 100 = .ok (.iaload, 1) := by decide +kernel
theorem dX1_layOut_101 : decode cX1_layOut 101 = .ok (.iload 4, 2) := by decide +kernel
theorem dX1_layOut_103 : decode cX1_layOut 103 = .ok (.if_icmp .ge 21, 3) := by decide +kernel
theorem dX1_layOut_106 : decode cX1_layOut 106 = .ok (.aload_n 0, 1) := by decide +kernel
theorem dX1_layOut_107 : decode cX1_layOut 107 = .ok (.aload_n 1, 1) := by decide +kernel
theorem dX1_layOut_108 : decode cX1_layOut 108 = .ok (.invokevirtual 86, 3) := by decide +kernel
theorem dX1_layOut_111 : decode cX1_layOut 111 = .ok (.aload_n 0, 1) := by decide +kernel
theorem dX1_layOut_112 : decode cX1_layOut 112 = .ok (.getfield 9, 3) := by decide +kernel
theorem dX1_layOut_115 : decode cX1_layOut 115 = .ok (.iconst 2, 1) := by decide +kernel
theorem dX1_layOut_116 : decode cX1_layOut 116 = .ok (.dup2, 1) := by decide +kernel
theorem dX1_layOut_117 : decode cX1_layOut 117 = .ok (.iaload, 1) := by decide +kernel
theorem dX1_layOut_118 : decode cX1_layOut 118 = .ok (.iconst 1, 1) := by decide +kernel
theorem dX1_layOut_119 : decode cX1_layOut 119 = .ok (.iadd, 1) := by decide +kernel
theorem dX1_layOut_120 : decode cX1_layOut 120 = .ok (.iastore, 1) := by decide +kernel
theorem dX1_layOut_121 : decode cX1_layOut 121 = .ok (.goto (-26), 3) := by decide +kernel
theorem dX1_layOut_124 : decode cX1_layOut 124 = .ok (.aload_n 0, 1) := by decide +kernel
theorem dX1_layOut_125 : decode cX1_layOut 125 = .ok (.getfield 9, 3) := by decide +kernel
theorem dX1_layOut_128 : decode cX1_layOut 128 = .ok (.iconst 1, 1) := by decide +kernel
theorem dX1_layOut_129 : decode cX1_layOut 129 = .ok (.dup2, 1) := by decide +kernel
theorem dX1_layOut_130 : decode cX1_layOut 130 = .ok (.iaload, 1) := by decide +kernel
theorem dX1_layOut_131 : decode cX1_layOut 131 = .ok (.iconst 1, 1) := by decide +kernel
theorem dX1_layOut_132 : decode cX1_layOut 132 = .ok (.iadd, 1) := by decide +kernel
theorem dX1_layOut_133 : decode cX1_layOut 133 = .ok (.iastore, 1) := by decide +kernel
theorem dX1_layOut_134 : decode cX1_layOut 134 = .ok (.goto (-56), 3) := by decide +kernel
theorem dX1_layOut_137 : decode cX1_layOut 137 = .ok (.aload_n 0, 1) := by decide +kernel
theorem dX1_layOut_138 : decode cX1_layOut 138 = .ok (.getfield 9, 3) := by decide +kernel
theorem dX1_layOut_141 : decode cX1_layOut 141 = .ok (.iconst 0, 1) := by decide +kernel
theorem dX1_layOut_142 : decode cX1_layOut 142 = .ok (.dup2, 1) := by decide +kernel
theorem dX1_layOut_143 : decode cX1_layOut 143 = .ok (.iaload, 1) := by decide +kernel
theorem dX1_layOut_144 : decode cX1_layOut 144 = .ok (.iconst 1, 1) := by decide +kernel
theorem dX1_layOut_145 : decode cX1_layOut 145 = .ok (.iadd, 1) := by decide +kernel
theorem dX1_layOut_146 : decode cX1_layOut 146 = .ok (.iastore, 1) := by decide +kernel
theorem dX1_layOut_147 : decode cX1_layOut 147 = .ok (.goto (-86), 3) := by decide +kernel
theorem dX1_layOut_150 : decode cX1_layOut 150 = .ok (.return_, 1) := by decide +kernel
theorem dX1_ordersOf_0 : decode cX1_ordersOf 0 = .ok (.iconst 0, 1) := by decide +kernel
theorem dX1_ordersOf_1 : decode cX1_ordersOf 1 = .ok (.istore_n 2, 1) := by decide +kernel
theorem dX1_ordersOf_2 : decode cX1_ordersOf 2 = .ok (.iload_n 2, 1) := by decide +kernel
theorem dX1_ordersOf_3 : decode cX1_ordersOf 3 = .ok (.aload_n 0, 1) := by decide +kernel
theorem dX1_ordersOf_4 : decode cX1_ordersOf 4 = .ok (.getfield 89, 3) := by decide +kernel
theorem dX1_ordersOf_7 : decode cX1_ordersOf 7 = .ok (.if_icmp .ge 40, 3) := by decide +kernel
theorem dX1_ordersOf_10 : decode cX1_ordersOf 10 = .ok (.aload_n 0, 1) := by decide +kernel
theorem dX1_ordersOf_11 : decode cX1_ordersOf 11 = .ok (.getfield 92, 3) := by decide +kernel
theorem dX1_ordersOf_14 : decode cX1_ordersOf 14 = .ok (.iload_n 2, 1) := by decide +kernel
theorem dX1_ordersOf_15 : decode cX1_ordersOf 15 = .ok (.iaload, 1) := by decide +kernel
theorem dX1_ordersOf_16 : decode cX1_ordersOf 16 = .ok (.iload_n 1, 1) := by decide +kernel
theorem dX1_ordersOf_17 : decode cX1_ordersOf 17 = .ok (.if_icmp .eq 13, 3) := by decide +kernel
theorem dX1_ordersOf_20 : decode cX1_ordersOf 20 = .ok (.aload_n 0, 1) := by decide +kernel
theorem dX1_ordersOf_21 : decode cX1_ordersOf 21 = .ok (.getfield 95, 3) := by decide +kernel
theorem dX1_ordersOf_24 : decode cX1_ordersOf 24 = .ok (.iload_n 2, 1) := by decide +kernel
theorem dX1_ordersOf_25 : decode cX1_ordersOf 25 = .ok (.iaload, 1) := by decide +kernel
theorem dX1_ordersOf_26 : decode cX1_ordersOf 26 = .ok (.iload_n 1, 1) := by decide +kernel
theorem dX1_ordersOf_27 : decode cX1_ordersOf 27 = .ok (.if_icmp .ne 14, 3) := by decide +kernel
theorem dX1_ordersOf_30 : decode cX1_ordersOf 30 = .ok (.getstatic 98, 3) := by decide +kernel
theorem dX1_ordersOf_33 : decode cX1_ordersOf 33 = .ok (.aload_n 0, 1) := by decide +kernel
theorem dX1_ordersOf_34 : decode cX1_ordersOf 34 = .ok (.getfield 101, 3) := by decide +kernel
theorem dX1_ordersOf_37 : decode cX1_ordersOf 37 = .ok (.iload_n 1, 1) := by decide +kernel
theorem dX1_ordersOf_38 : decode cX1_ordersOf 38 = .ok (.iaload, 1) := by decide +kernel
theorem dX1_ordersOf_39 : decode cX1_ordersOf 39 = .ok (.iaload, 1) := by decide +kernel
theorem dX1_ordersOf_40 : decode cX1_ordersOf 40 = .ok (.ireturn, 1) := by decide +kernel
theorem dX1_ordersOf_41 : decode cX1_ordersOf 41 = .ok (.iinc 2 1, 3) := by decide +kernel
theorem dX1_ordersOf_44 : decode cX1_ordersOf 44 = .ok (.goto (-42), 3) := by decide +kernel
theorem dX1_ordersOf_47 : decode cX1_ordersOf 47 = .ok (.iconst 1, 1) := by decide +kernel
theorem dX1_ordersOf_48 : decode cX1_ordersOf 48 = .ok (.ireturn, 1) := by decide +kernel
theorem dX1_addWay_0 : decode cX1_addWay 0 = .ok (.iconst 0, 1) := by decide +kernel
theorem dX1_addWay_1 : decode cX1_addWay 1 = .ok (.istore_n 2, 1) := by decide +kernel
theorem dX1_addWay_2 : decode cX1_addWay 2 = .ok (.iconst 0, 1) := by decide +kernel
theorem dX1_addWay_3 : decode cX1_addWay 3 = .ok (.istore_n 3, 1) := by decide +kernel
theorem dX1_addWay_4 : decode cX1_addWay 4 = .ok (.iload_n 3, 1) := by decide +kernel
theorem dX1_addWay_5 : decode cX1_addWay 5 = .ok (.aload_n 1, 1) := by decide +kernel
theorem dX1_addWay_6 : decode cX1_addWay 6 = .ok (.getfield 89, 3) := by decide +kernel
theorem dX1_addWay_9 : decode cX1_addWay 9 = .ok (.if_icmp .ge 149, 3) := by decide +kernel
theorem dX1_addWay_12 : decode cX1_addWay 12 = .ok (.aload_n 1, 1) := by decide +kernel
theorem dX1_addWay_13 : decode cX1_addWay 13 = .ok (.getfield 95, 3) := by decide +kernel
theorem dX1_addWay_16 : decode cX1_addWay 16 = .ok (.iload_n 3, 1) := by decide +kernel
theorem dX1_addWay_17 : decode cX1_addWay 17 = .ok (.iaload, 1) := by decide +kernel
theorem dX1_addWay_18 : decode cX1_addWay 18 = .ok (.istore 4, 2) := by decide +kernel
theorem dX1_addWay_20 : decode cX1_addWay 20 = .ok (.iconst 0, 1) := by decide +kernel
theorem dX1_addWay_21 : decode cX1_addWay 21 = .ok (.istore 5, 2) := by decide +kernel
theorem dX1_addWay_23 : decode cX1_addWay 23 = .ok (.iload 5, 2) := by decide +kernel
theorem dX1_addWay_25 : decode cX1_addWay 25 = .ok (.aload_n 1, 1) := by decide +kernel
theorem dX1_addWay_26 : decode cX1_addWay 26 = .ok (.getfield 104, 3) := by decide +kernel
theorem dX1_addWay_29 : decode cX1_addWay 29 = .ok (.iload_n 3, 1) := by decide +kernel
theorem dX1_addWay_30 : decode cX1_addWay 30 = .ok (.iaload, 1) := by decide +kernel
theorem dX1_addWay_31 : decode cX1_addWay 31 = .ok (.if_icmp .ge 121, 3) := by decide +kernel
theorem dX1_addWay_34 : decode cX1_addWay 34 = .ok (.aload_n 0, 1) := by decide +kernel
theorem dX1_addWay_35 : decode cX1_addWay 35 = .ok (.aload_n 1, 1) := by decide +kernel
theorem dX1_addWay_36 : decode cX1_addWay 36 = .ok (.getfield 92, 3) := by decide +kernel
theorem dX1_addWay_39 : decode cX1_addWay 39 = .ok (.iload_n 3, 1) := by decide +kernel
theorem dX1_addWay_40 : decode cX1_addWay 40 = .ok (.iaload, 1) := by decide +kernel
theorem dX1_addWay_41 : decode cX1_addWay 41 = .ok (.iload 5, 2) := by decide +kernel
theorem dX1_addWay_43 : decode cX1_addWay 43 = .ok (.invokevirtual 107, 3) := by decide +kernel
theorem dX1_addWay_46 : decode cX1_addWay 46 = .ok (.aload_n 1, 1) := by decide +kernel
theorem dX1_addWay_47 : decode cX1_addWay 47 = .ok (.getfield 110, 3) := by decide +kernel
theorem dX1_addWay_50 : decode cX1_addWay 50 = .ok (.iload_n 3, 1) := by decide +kernel
theorem dX1_addWay_51 : decode cX1_addWay 51 = .ok (.iaload, 1) := by decide +kernel
theorem dX1_addWay_52 : decode cX1_addWay 52 = .ok (.imul, 1) := by decide +kernel
theorem dX1_addWay_53 : decode cX1_addWay 53 = .ok (.istore 6, 2) := by decide +kernel
theorem dX1_addWay_55 : decode cX1_addWay 55 = .ok (.iconst 0, 1) := by decide +kernel
theorem dX1_addWay_56 : decode cX1_addWay 56 = .ok (.istore 7, 2) := by decide +kernel
theorem dX1_addWay_58 : decode cX1_addWay 58 = .ok (.iload 7, 2) := by decide +kernel
theorem dX1_addWay_60 : decode cX1_addWay 60 = .ok (.aload_n 1, 1) := by decide +kernel
theorem dX1_addWay_61 : decode cX1_addWay 61 = .ok (.getfield 110, 3) := by decide +kernel
theorem dX1_addWay_64 : decode cX1_addWay 64 = .ok (.iload_n 3, 1) := by decide +kernel
theorem dX1_addWay_65 : decode cX1_addWay 65 = .ok (.iaload, 1) := by decide +kernel
theorem dX1_addWay_66 : decode cX1_addWay 66 = .ok (.if_icmp .ge 80, 3) := by decide +kernel
theorem dX1_addWay_69 : decode cX1_addWay 69 = .ok (.aload_n 1, 1) := by decide +kernel
theorem dX1_addWay_70 : decode cX1_addWay 70 = .ok (.getfield 113, 3) := by decide +kernel
theorem dX1_addWay_73 : decode cX1_addWay 73 = .ok (.iload_n 3, 1) := by decide +kernel
theorem dX1_addWay_74 : decode cX1_addWay 74 = .ok (.iaload, 1) := by decide +kernel
theorem dX1_addWay_75 : decode cX1_addWay 75 = .ok (.iload 6, 2) := by decide +kernel
theorem dX1_addWay_77 : decode cX1_addWay 77 = .ok (.iadd, 1) := by decide +kernel
theorem dX1_addWay_78 : decode cX1_addWay 78 = .ok (.iload 4, 2) := by decide +kernel
theorem dX1_addWay_80 : decode cX1_addWay 80 = .ok (.iconst (-1), 1) := by decide +kernel
theorem dX1_addWay_81 : decode cX1_addWay 81 = .ok (.if_icmp .ne 7, 3) := by decide +kernel
theorem dX1_addWay_84 : decode cX1_addWay 84 = .ok (.iconst 0, 1) := by decide +kernel
theorem dX1_addWay_85 : decode cX1_addWay 85 = .ok (.goto 11, 3) := by decide +kernel
theorem dX1_addWay_88 : decode cX1_addWay 88 = .ok (.aload_n 0, 1) := by decide +kernel
theorem dX1_addWay_89 : decode cX1_addWay 89 = .ok (.iload 4, 2) := by decide +kernel
theorem dX1_addWay_91 : decode cX1_addWay 91 = .ok (.iload 7, 2) := by decide +kernel
theorem dX1_addWay_93 : decode cX1_addWay 93 = .ok (.invokevirtual 107, 3) := by decide +kernel
theorem dX1_addWay_96 : decode cX1_addWay 96 = .ok (.iadd, 1) := by decide +kernel
theorem dX1_addWay_97 : decode cX1_addWay 97 = .ok (.istore 8, 2) := by decide +kernel
theorem dX1_addWay_99 : decode cX1_addWay 99 = .ok (.aload_n 0, 1) := by decide +kernel
theorem dX1_addWay_100 : decode cX1_addWay 100 = .ok (.getfield 28, 3) := by decide +kernel
theorem dX1_addWay_103 : decode cX1_addWay 103 = .ok (.sipush 216, 3) := by decide +kernel
theorem dX1_addWay_106 : decode cX1_addWay 106 = .ok (.if_icmp .ge 31, 3) := by decide +kernel
theorem dX1_addWay_109 : decode cX1_addWay 109 = .ok (.iload_n 2, 1) := by decide +kernel
theorem dX1_addWay_110 : decode cX1_addWay 110 = .ok (.bipush 12, 2) := by decide +kernel
theorem dX1_addWay_112 : decode cX1_addWay 112 = .ok (.if_icmp .ge 25, 3) := by decide +kernel
theorem dX1_addWay_115 : decode cX1_addWay 115 = .ok (.aload_n 0, 1) := by decide +kernel
theorem dX1_addWay_116 : decode cX1_addWay 116 = .ok (.getfield 15, 3) := by decide +kernel
theorem dX1_addWay_119 : decode cX1_addWay 119 = .ok (.aload_n 0, 1) := by decide +kernel
theorem dX1_addWay_120 : decode cX1_addWay 120 = .ok (.getfield 28, 3) := by decide +kernel
theorem dX1_addWay_123 : decode cX1_addWay 123 = .ok (.bipush 12, 2) := by decide +kernel
theorem dX1_addWay_125 : decode cX1_addWay 125 = .ok (.imul, 1) := by decide +kernel
theorem dX1_addWay_126 : decode cX1_addWay 126 = .ok (.iload_n 2, 1) := by decide +kernel
theorem dX1_addWay_127 : decode cX1_addWay 127 = .ok (.iadd, 1) := by decide +kernel
theorem dX1_addWay_128 : decode cX1_addWay 128 = .ok (.iconst 1, 1) := by decide +kernel
theorem dX1_addWay_129 : decode cX1_addWay 129 = .ok (.aload_n 1, 1) := by decide +kernel
theorem dX1_addWay_130 : decode cX1_addWay 130 = .ok (.iload 8, 2) := by decide +kernel
theorem dX1_addWay_132 : decode cX1_addWay 132 = .ok (.invokevirtual 116, 3) := by decide +kernel
theorem dX1_addWay_135 : decode cX1_addWay 135 = .ok (.ishl, 1) := by decide +kernel
theorem dX1_addWay_136 : decode cX1_addWay 136 = .ok (.iastore, 1) := by decide +kernel
theorem dX1_addWay_137 : decode cX1_addWay 137 = .ok (.iinc 2 1, 3) := by decide +kernel
theorem dX1_addWay_140 : decode cX1_addWay 140 = .ok (.iinc 7 1, 3) := by decide +kernel
theorem dX1_addWay_143 : decode cX1_addWay 143 = .ok (.goto (-85), 3) := by decide +kernel
theorem dX1_addWay_146 : decode cX1_addWay 146 = .ok (.iinc 5 1, 3) := by decide +kernel
theorem dX1_addWay_149 : decode cX1_addWay 149 = .ok (.goto (-126), 3) := by decide +kernel
theorem dX1_addWay_152 : decode cX1_addWay 152 = .ok (.iinc 3 1, 3) := by decide +kernel
theorem dX1_addWay_155 : decode cX1_addWay 155 = .ok (.goto (-151), 3) := by decide +kernel
theorem dX1_addWay_158 : decode cX1_addWay 158 = .ok (.aload_n 0, 1) := by decide +kernel
theorem dX1_addWay_159 : decode cX1_addWay 159 = .ok (.aload_n 0, 1) := by decide +kernel
theorem dX1_addWay_160 : decode cX1_addWay 160 = .ok (.getfield 28, 3) := by decide +kernel
theorem dX1_addWay_163 : decode cX1_addWay 163 = .ok (.iconst 1, 1) := by decide +kernel
theorem dX1_addWay_164 : decode cX1_addWay 164 = .ok (.iadd, 1) := by decide +kernel
theorem dX1_addWay_165 : decode cX1_addWay 165 = .ok (.sipush 216, 3) := by decide +kernel
theorem dX1_addWay_168 : decode cX1_addWay 168 = .ok (.invokestatic 53, 3) := by decide +kernel
theorem dX1_addWay_171 : decode cX1_addWay 171 = .ok (.putfield 28, 3) := by decide +kernel
theorem dX1_addWay_174 : decode cX1_addWay 174 = .ok (.return_, 1) := by decide +kernel
theorem dX1_ordered_0 : decode cX1_ordered 0 = .ok (.aload_n 0, 1) := by decide +kernel
theorem dX1_ordered_1 : decode cX1_ordered 1 = .ok (.getfield 9, 3) := by decide +kernel
theorem dX1_ordered_4 : decode cX1_ordered 4 = .ok (.iload_n 1, 1) := by decide +kernel
theorem dX1_ordered_5 : decode cX1_ordered 5 = .ok (.iaload, 1) := by decide +kernel
theorem dX1_ordered_6 : decode cX1_ordered 6 = .ok (.iconst 3, 1) := by decide +kernel
theorem dX1_ordered_7 : decode cX1_ordered 7 = .ok (.imul, 1) := by decide +kernel
theorem dX1_ordered_8 : decode cX1_ordered 8 = .ok (.iload_n 2, 1) := by decide +kernel
theorem dX1_ordered_9 : decode cX1_ordered 9 = .ok (.iadd, 1) := by decide +kernel
theorem dX1_ordered_10 : decode cX1_ordered 10 = .ok (.istore_n 3, 1) := by decide +kernel
theorem dX1_ordered_11 : decode cX1_ordered 11 = .ok (.iload_n 3, 1) := by decide +kernel
theorem dX1_ordered_12 : decode cX1_ordered 12 = .ok (.ifCond .lt 19, 3) := by decide +kernel
theorem dX1_ordered_15 : decode cX1_ordered 15 = .ok (.iload_n 3, 1) := by decide +kernel
theorem dX1_ordered_16 : decode cX1_ordered 16 = .ok (.getstatic 119, 3) := by decide +kernel
theorem dX1_ordered_19 : decode cX1_ordered 19 = .ok (.arraylength, 1) := by decide +kernel
theorem dX1_ordered_20 : decode cX1_ordered 20 = .ok (.if_icmp .ge 11, 3) := by decide +kernel
theorem dX1_ordered_23 : decode cX1_ordered 23 = .ok (.getstatic 119, 3) := by decide +kernel
theorem dX1_ordered_26 : decode cX1_ordered 26 = .ok (.iload_n 3, 1) := by decide +kernel
theorem dX1_ordered_27 : decode cX1_ordered 27 = .ok (.iaload, 1) := by decide +kernel
theorem dX1_ordered_28 : decode cX1_ordered 28 = .ok (.goto 4, 3) := by decide +kernel
theorem dX1_ordered_31 : decode cX1_ordered 31 = .ok (.iload_n 2, 1) := by decide +kernel
theorem dX1_ordered_32 : decode cX1_ordered 32 = .ok (.ireturn, 1) := by decide +kernel
theorem dX2_init_0 : decode cX2_init 0 = .ok (.aload_n 0, 1) := by decide +kernel
theorem dX2_init_1 : decode cX2_init 1 = .ok (.invokespecial 3, 3) := by decide +kernel
theorem dX2_init_4 : decode cX2_init 4 = .ok (.aload_n 0, 1) := by decide +kernel
theorem dX2_init_5 : decode cX2_init 5 = .ok (.aconst_null, 1) := by decide +kernel
theorem dX2_init_6 : decode cX2_init 6 = .ok (.putfield 9, 3) := by decide +kernel
theorem dX2_init_9 : decode cX2_init 9 = .ok (.aload_n 0, 1) := by decide +kernel
theorem dX2_init_10 : decode cX2_init 10 = .ok (.aconst_null, 1) := by decide +kernel
theorem dX2_init_11 : decode cX2_init 11 = .ok (.putfield 15, 3) := by decide +kernel
theorem dX2_init_14 : decode cX2_init 14 = .ok (.aload_n 0, 1) := by decide +kernel
theorem dX2_init_15 : decode cX2_init 15 = .ok (.iconst 0, 1) := by decide +kernel
theorem dX2_init_16 : decode cX2_init 16 = .ok (.putfield 19, 3) := by decide +kernel
theorem dX2_init_19 : decode cX2_init 19 = .ok (.aload_n 0, 1) := by decide +kernel
theorem dX2_init_20 : decode cX2_init 20 = .ok (.aconst_null, 1) := by decide +kernel
theorem dX2_init_21 : decode cX2_init 21 = .ok (.putfield 23, 3) := by decide +kernel
theorem dX2_init_24 : decode cX2_init 24 = .ok (.aload_n 0, 1) := by decide +kernel
theorem dX2_init_25 : decode cX2_init 25 = .ok (.iconst 0, 1) := by decide +kernel
theorem dX2_init_26 : decode cX2_init 26 = .ok (.putfield 27, 3) := by decide +kernel
theorem dX2_init_29 : decode cX2_init 29 = .ok (.aload_n 0, 1) := by decide +kernel
theorem dX2_init_30 : decode cX2_init 30 = .ok (.new 31, 3) := by decide +kernel
theorem dX2_init_33 : decode cX2_init 33 = .ok (.dup, 1) := by decide +kernel
theorem dX2_init_34 : decode cX2_init 34 = .ok (.bipush 40, 2) := by decide +kernel
theorem dX2_init_36 : decode cX2_init 36 = .ok (.invokespecial 33, 3) := by decide +kernel
theorem dX2_init_39 : decode cX2_init 39 = .ok (.putfield 36, 3) := by decide +kernel
theorem dX2_init_42 : decode cX2_init 42 = .ok (.aload_n 0, 1) := by decide +kernel
theorem dX2_init_43 : decode cX2_init 43 = .ok (.sipush 402, 3) := by decide +kernel
theorem dX2_init_46 : decode cX2_init 46 = .ok (.newarray .int, 2) := by decide +kernel
theorem dX2_init_48 : decode cX2_init 48 = .ok (.putfield 40, 3) := by decide +kernel
theorem dX2_init_51 : decode cX2_init 51 = .ok (.aload_n 0, 1) := by decide +kernel
theorem dX2_init_52 : decode cX2_init 52 = .ok (.iconst 0, 1) := by decide +kernel
theorem dX2_init_53 : decode cX2_init 53 = .ok (.putfield 43, 3) := by decide +kernel
theorem dX2_init_56 : decode cX2_init 56 = .ok (.aload_n 0, 1) := by decide +kernel
theorem dX2_init_57 : decode cX2_init 57 = .ok (.iconst 0, 1) := by decide +kernel
theorem dX2_init_58 : decode cX2_init 58 = .ok (.putfield 46, 3) := by decide +kernel
theorem dX2_init_61 : decode cX2_init 61 = .ok (.aload_n 0, 1) := by decide +kernel
theorem dX2_init_62 : decode cX2_init 62 = .ok (.iconst 0, 1) := by decide +kernel
theorem dX2_init_63 : decode cX2_init 63 = .ok (.putfield 49, 3) := by decide +kernel
theorem dX2_init_66 : decode cX2_init 66 = .ok (.aload_n 0, 1) := by decide +kernel
theorem dX2_init_67 : decode cX2_init 67 = .ok (.iconst 0, 1) := by decide +kernel
theorem dX2_init_68 : decode cX2_init 68 = .ok (.putfield 52, 3) := by decide +kernel
theorem dX2_init_71 : decode cX2_init 71 = .ok (.aload_n 0, 1) := by decide +kernel
theorem dX2_init_72 : decode cX2_init 72 = .ok (.iconst 0, 1) := by decide +kernel
theorem dX2_init_73 : decode cX2_init 73 = .ok (.putfield 55, 3) := by decide +kernel
theorem dX2_init_76 : decode cX2_init 76 = .ok (.return_, 1) := by decide +kernel
theorem dX2_read_0 : decode cX2_read 0 = .ok (.aload_n 0, 1) := by decide +kernel
theorem dX2_read_1 : decode cX2_read 1 = .ok (.aload_n 1, 1) := by decide +kernel
theorem dX2_read_2 : decode cX2_read 2 = .ok (.putfield 9, 3) := by decide +kernel
theorem dX2_read_5 : decode cX2_read 5 = .ok (.aload_n 0, 1) := by decide +kernel
theorem dX2_read_6 : decode cX2_read 6 = .ok (.aload_n 0, 1) := by decide +kernel
theorem dX2_read_7 : decode cX2_read 7 = .ok (.getfield 9, 3) := by decide +kernel
theorem dX2_read_10 : decode cX2_read 10 = .ok (.getfield 58, 3) := by decide +kernel
theorem dX2_read_13 : decode cX2_read 13 = .ok (.putfield 15, 3) := by decide +kernel
theorem dX2_read_16 : decode cX2_read 16 = .ok (.aload_n 0, 1) := by decide +kernel
theorem dX2_read_17 : decode cX2_read 17 = .ok (.aload_n 0, 1) := by decide +kernel
theorem dX2_read_18 : decode cX2_read 18 = .ok (.getfield 9, 3) := by decide +kernel
theorem dX2_read_21 : decode cX2_read 21 = .ok (.getfield 63, 3) := by decide +kernel
theorem dX2_read_24 : decode cX2_read 24 = .ok (.putfield 19, 3) := by decide +kernel
theorem dX2_read_27 : decode cX2_read 27 = .ok (.aload_n 0, 1) := by decide +kernel
theorem dX2_read_28 : decode cX2_read 28 = .ok (.aload_n 0, 1) := by decide +kernel
theorem dX2_read_29 : decode cX2_read 29 = .ok (.getfield 9, 3) := by decide +kernel
theorem dX2_read_32 : decode cX2_read 32 = .ok (.getfield 66, 3) := by decide +kernel
theorem dX2_read_35 : decode cX2_read 35 = .ok (.putfield 23, 3) := by decide +kernel
theorem dX2_read_38 : decode cX2_read 38 = .ok (.aload_n 0, 1) := by decide +kernel
theorem dX2_read_39 : decode cX2_read 39 = .ok (.getfield 9, 3) := by decide +kernel
theorem dX2_read_42 : decode cX2_read 42 = .ok (.invokevirtual 67, 3) := by decide +kernel
theorem dX2_read_45 : decode cX2_read 45 = .ok (.aload_n 0, 1) := by decide +kernel
theorem dX2_read_46 : decode cX2_read 46 = .ok (.iconst 0, 1) := by decide +kernel
theorem dX2_read_47 : decode cX2_read 47 = .ok (.putfield 27, 3) := by decide +kernel
theorem dX2_read_50 : decode cX2_read 50 = .ok (.aload_n 0, 1) := by decide +kernel
theorem dX2_read_51 : decode cX2_read 51 = .ok (.getfield 36, 3) := by decide +kernel
theorem dX2_read_54 : decode cX2_read 54 = .ok (.iconst 0, 1) := by decide +kernel
theorem dX2_read_55 : decode cX2_read 55 = .ok (.putfield 70, 3) := by decide +kernel
theorem dX2_read_58 : decode cX2_read 58 = .ok (.aload_n 0, 1) := by decide +kernel
theorem dX2_read_59 : decode cX2_read 59 = .ok (.iconst 0, 1) := by decide +kernel
theorem dX2_read_60 : decode cX2_read 60 = .ok (.putfield 52, 3) := by decide +kernel
theorem dX2_read_63 : decode cX2_read 63 = .ok (.aload_n 0, 1) := by decide +kernel
theorem dX2_read_64 : decode cX2_read 64 = .ok (.iconst 0, 1) := by decide +kernel
theorem dX2_read_65 : decode cX2_read 65 = .ok (.putfield 43, 3) := by decide +kernel
theorem dX2_read_68 : decode cX2_read 68 = .ok (.aload_n 0, 1) := by decide +kernel
theorem dX2_read_69 : decode cX2_read 69 = .ok (.iconst 0, 1) := by decide +kernel
theorem dX2_read_70 : decode cX2_read 70 = .ok (.invokevirtual 73, 3) := by decide +kernel
theorem dX2_read_73 : decode cX2_read 73 = .ok (.aload_n 0, 1) := by decide +kernel
theorem dX2_read_74 : decode cX2_read 74 = .ok (.invokevirtual 76, 3) := by decide +kernel
theorem dX2_read_77 : decode cX2_read 77 = .ok (.iconst 0, 1) := by decide +kernel
theorem dX2_read_78 : decode cX2_read 78 = .ok (.istore_n 2, 1) := by decide +kernel
theorem dX2_read_79 : decode cX2_read 79 = .ok (.iload_n 2, 1) := by decide +kernel
theorem dX2_read_80 : decode cX2_read 80 = .ok (.sipush 400, 3) := by decide +kernel
theorem dX2_read_83 : decode cX2_read 83 = .ok (.if_icmp .gt 27, 3) := by decide +kernel
theorem dX2_read_86 : decode cX2_read 86 = .ok (.aload_n 0, 1) := by decide +kernel
theorem dX2_read_87 : decode cX2_read 87 = .ok (.getfield 43, 3) := by decide +kernel
theorem dX2_read_90 : decode cX2_read 90 = .ok (.ifCond .le 20, 3) := by decide +kernel
theorem dX2_read_93 : decode cX2_read 93 = .ok (.aload_n 0, 1) := by decide +kernel
theorem dX2_read_94 : decode cX2_read 94 = .ok (.getfield 27, 3) := by decide +kernel
theorem dX2_read_97 : decode cX2_read 97 = .ok (.ifCond .ne 13, 3) := by decide +kernel
theorem dX2_read_100 : decode cX2_read 100 = .ok (.aload_n 0, 1) := by decide +kernel
theorem dX2_read_101 : decode cX2_read 101 = .ok (.invokevirtual 79, 3) := by decide +kernel
theorem dX2_read_104 : decode cX2_read 104 = .ok (.iinc 2 1, 3) := by decide +kernel
theorem dX2_read_107 : decode cX2_read 107 = .ok (.goto (-28), 3) := by decide +kernel
theorem dX2_read_110 : decode cX2_read 110 = .ok (.aload_n 0, 1) := by decide +kernel
theorem dX2_read_111 : decode cX2_read 111 = .ok (.getfield 46, 3) := by decide +kernel
theorem dX2_read_114 : decode cX2_read 114 = .ok (.ifCond .eq 7, 3) := by decide +kernel
theorem dX2_read_117 : decode cX2_read 117 = .ok (.aload_n 0, 1) := by decide +kernel
theorem dX2_read_118 : decode cX2_read 118 = .ok (.invokevirtual 82, 3) := by decide +kernel
theorem dX2_read_121 : decode cX2_read 121 = .ok (.aload_n 0, 1) := by decide +kernel
theorem dX2_read_122 : decode cX2_read 122 = .ok (.getfield 9, 3) := by decide +kernel
theorem dX2_read_125 : decode cX2_read 125 = .ok (.getfield 85, 3) := by decide +kernel
theorem dX2_read_128 : decode cX2_read 128 = .ok (.ifCond .ne 13, 3) := by decide +kernel
theorem dX2_read_131 : decode cX2_read 131 = .ok (.aload_n 0, 1) := by decide +kernel
theorem dX2_read_132 : decode cX2_read 132 = .ok (.getfield 36, 3) := by decide +kernel
theorem dX2_read_135 : decode cX2_read 135 = .ok (.invokevirtual 88, 3) := by decide +kernel
theorem dX2_read_138 : decode cX2_read 138 = .ok (.goto 4, 3) := by decide +kernel
theorem dX2_read_141 : decode cX2_read 141 = .ok (.aconst_null, 1) := by decide +kernel
theorem dX2_read_142 : decode cX2_read 142 = .ok (.areturn, 1) := by decide +kernel
theorem dX2_readPart_0 : decode cX2_readPart 0 = .ok (.aload_n 0, 1) := by decide +kernel
theorem dX2_readPart_1 : decode cX2_readPart 1 = .ok (.dup, 1) := by decide +kernel
theorem dX2_readPart_2 : decode cX2_readPart 2 = .ok (.getfield 43, 3) := by decide +kernel
theorem dX2_readPart_5 : decode cX2_readPart 5 = .ok (.iconst 1, 1) := by decide +kernel
theorem dX2_readPart_6 : decode cX2_readPart 6 = .ok (.isub, 1) := by decide +kernel
theorem dX2_readPart_7 : decode cX2_readPart 7 = .ok (.putfield 43, 3) := by decide +kernel
theorem dX2_readPart_10 : decode cX2_readPart 10 = .ok (.aload_n 0, 1) := by decide +kernel
theorem dX2_readPart_11 : decode cX2_readPart 11 = .ok (.getfield 40, 3) := by decide +kernel
theorem dX2_readPart_14 : decode cX2_readPart 14 = .ok (.aload_n 0, 1) := by decide +kernel
theorem dX2_readPart_15 : decode cX2_readPart 15 = .ok (.getfield 43, 3) := by decide +kernel
theorem dX2_readPart_18 : decode cX2_readPart 18 = .ok (.iaload, 1) := by decide +kernel
theorem dX2_readPart_19 : decode cX2_readPart 19 = .ok (.istore_n 1, 1) := by decide +kernel
theorem dX2_readPart_20 : decode cX2_readPart 20 = .ok (.aload_n 0, 1) := by decide +kernel
theorem dX2_readPart_21 : decode cX2_readPart 21 = .ok (.invokevirtual 92, 3) := by decide +kernel
theorem dX2_readPart_24 : decode cX2_readPart 24 = .ok (.istore_n 2, 1) := by decide +kernel
theorem dX2_readPart_25 : decode cX2_readPart 25 = .ok (.iload_n 2, 1) := by decide +kernel
theorem dX2_readPart_26 : decode cX2_readPart 26 = .ok (.iconst (-1), 1) := by decide +kernel
theorem dX2_readPart_27 : decode cX2_readPart 27 = .ok (.if_icmp .ne 8, 3) := by decide +kernel
theorem dX2_readPart_30 : decode cX2_readPart 30 = .ok (.aload_n 0, 1) := by decide +kernel
theorem dX2_readPart_31 : decode cX2_readPart 31 = .ok (.invokevirtual 82, 3) := by decide +kernel
theorem dX2_readPart_34 : decode cX2_readPart 34 = .ok (.return_, 1) := by decide +kernel
theorem dX2_readPart_35 : decode cX2_readPart 35 = .ok (.aload_n 0, 1) := by decide +kernel
theorem dX2_readPart_36 : decode cX2_readPart 36 = .ok (.getfield 36, 3) := by decide +kernel
theorem dX2_readPart_39 : decode cX2_readPart 39 = .ok (.getfield 70, 3) := by decide +kernel
theorem dX2_readPart_42 : decode cX2_readPart 42 = .ok (.bipush 40, 2) := by decide +kernel
theorem dX2_readPart_44 : decode cX2_readPart 44 = .ok (.if_icmp .lt 12, 3) := by decide +kernel
theorem dX2_readPart_47 : decode cX2_readPart 47 = .ok (.aload_n 0, 1) := by decide +kernel
theorem dX2_readPart_48 : decode cX2_readPart 48 = .ok (.iconst 4, 1) := by decide +kernel
theorem dX2_readPart_49 : decode cX2_readPart 49 = .ok (.aload_n 0, 1) := by decide +kernel
theorem dX2_readPart_50 : decode cX2_readPart 50 = .ok (.getfield 49, 3) := by decide +kernel
theorem dX2_readPart_53 : decode cX2_readPart 53 = .ok (.invokevirtual 96, 3) := by decide +kernel
theorem dX2_readPart_56 : decode cX2_readPart 56 = .ok (.iload_n 2, 1) := by decide +kernel
theorem dX2_readPart_57 : decode cX2_readPart 57 = .ok (.tableswitch 114 0 10 #[59, 59, 59, 59, 68, 77, 77, 77, 91, 99, 107], 59) := by decide +kernel
theorem dX2_readPart_116 : decode cX2_readPart 116 = .ok (.aload_n 0, 1) := by decide +kernel
theorem dX2_readPart_117 : decode cX2_readPart 117 = .ok (.iload_n 2, 1) := by decide +kernel
theorem dX2_readPart_118 : decode cX2_readPart 118 = .ok (.iload_n 1, 1) := by decide +kernel
theorem dX2_readPart_119 : decode cX2_readPart 119 = .ok (.invokevirtual 100, 3) := by decide +kernel
theorem dX2_readPart_122 : decode cX2_readPart 122 = .ok (.goto 54, 3) := by decide +kernel
theorem dX2_readPart_125 : decode cX2_readPart 125 = .ok (.aload_n 0, 1) := by decide +kernel
theorem dX2_readPart_126 : decode cX2_readPart 126 = .ok (.iload_n 2, 1) := by decide +kernel
theorem dX2_readPart_127 : decode cX2_readPart 127 = .ok (.iload_n 1, 1) := by decide +kernel
theorem dX2_readPart_128 : decode cX2_readPart 128 = .ok (.invokevirtual 103, 3) := by decide +kernel
theorem dX2_readPart_131 : decode cX2_readPart 131 = .ok (.goto 45, 3) := by decide +kernel
theorem dX2_readPart_134 : decode cX2_readPart 134 = .ok (.aload_n 0, 1) := by decide +kernel
theorem dX2_readPart_135 : decode cX2_readPart 135 = .ok (.iload_n 2, 1) := by decide +kernel
theorem dX2_readPart_136 : decode cX2_readPart 136 = .ok (.iload_n 1, 1) := by decide +kernel
theorem dX2_readPart_137 : decode cX2_readPart 137 = .ok (.invokevirtual 103, 3) := by decide +kernel
theorem dX2_readPart_140 : decode cX2_readPart 140 = .ok (.aload_n 0, 1) := by decide +kernel
theorem dX2_readPart_141 : decode cX2_readPart 141 = .ok (.iload_n 1, 1) := by decide +kernel
theorem dX2_readPart_142 : decode cX2_readPart 142 = .ok (.invokevirtual 73, 3) := by decide +kernel
theorem dX2_readPart_145 : decode cX2_readPart 145 = .ok (.goto 31, 3) := by decide +kernel
theorem dX2_readPart_148 : decode cX2_readPart 148 = .ok (.aload_n 0, 1) := by decide +kernel
theorem dX2_readPart_149 : decode cX2_readPart 149 = .ok (.iload_n 1, 1) := by decide +kernel
theorem dX2_readPart_150 : decode cX2_readPart 150 = .ok (.invokevirtual 106, 3) := by decide +kernel
theorem dX2_readPart_153 : decode cX2_readPart 153 = .ok (.goto 23, 3) := by decide +kernel
theorem dX2_readPart_156 : decode cX2_readPart 156 = .ok (.aload_n 0, 1) := by decide +kernel
theorem dX2_readPart_157 : decode cX2_readPart 157 = .ok (.iload_n 1, 1) := by decide +kernel
theorem dX2_readPart_158 : decode cX2_readPart 158 = .ok (.invokevirtual 109, 3) := by decide +kernel
theorem dX2_readPart_161 : decode cX2_readPart 161 = .ok (.goto 15, 3) := by decide +kernel
theorem dX2_readPart_164 : decode cX2_readPart 164 = .ok (.aload_n 0, 1) := by decide +kernel
theorem dX2_readPart_165 : decode cX2_readPart 165 = .ok (.invokevirtual 112, 3) := by decide +kernel
theorem dX2_readPart_168 : decode cX2_readPart 168 = .ok (.goto 8, 3) := by decide +kernel
theorem dX2_readPart_171 : decode cX2_readPart 171 = .ok (.aload_n 0, 1) := by decide +kernel
theorem dX2_readPart_172 : decode cX2_readPart 172 = .ok (.iload_n 1, 1) := by decide +kernel
theorem dX2_readPart_173 : decode cX2_readPart 173 = .ok (.invokevirtual 115, 3) := by decide +kernel
theorem dX2_readPart_176 : decode cX2_readPart 176 = .ok (.return_, 1) := by decide +kernel
theorem dX2_firstWord_0 : decode cX2_firstWord 0 = .ok (.aload_n 0, 1) := by decide +kernel
theorem dX2_firstWord_1 : decode cX2_firstWord 1 = .ok (.ldc 118, 2) := by decide +kernel
theorem dX2_firstWord_3 : decode cX2_firstWord 3 = .ok (.invokevirtual 120, 3) := by decide +kernel
theorem dX2_firstWord_6 : decode cX2_firstWord 6 = .ok (.ifCond .eq 5, 3) := by decide +kernel
theorem dX2_firstWord_9 : decode cX2_firstWord 9 = .ok (.iconst 0, 1) := by decide +kernel
theorem dX2_firstWord_10 : decode cX2_firstWord 10 = .ok (.ireturn, 1) := by decide +kernel
theorem dX2_firstWord_11 : decode cX2_firstWord 11 = .ok (.aload_n 0, 1) := by decide +kernel
theorem dX2_firstWord_12 : decode cX2_firstWord 12 = .ok (.ldc 124, 2) := by decide +kernel
theorem dX2_firstWord_14 : decode cX2_firstWord 14 = .ok (.invokevirtual 120, 3) := by decide +kernel
theorem dX2_firstWord_17 : decode cX2_firstWord 17 = .ok (.ifCond .eq 5, 3) := by decide +kernel
theorem dX2_firstWord_20 : decode cX2_firstWord 20 = .ok (.iconst 1, 1) := by decide +kernel
theorem dX2_firstWord_21 : decode cX2_firstWord 21 = .ok (.ireturn, 1) := by decide +kernel
theorem dX2_firstWord_22 : decode cX2_firstWord 22 = .ok (.aload_n 0, 1) := by decide +kernel
theorem dX2_firstWord_23 : decode cX2_firstWord 23 = .ok (.ldc 126, 2) := by decide +kernel
theorem dX2_firstWord_25 : decode cX2_firstWord 25 = .ok (.invokevirtual 120, 3) := by decide +kernel
theorem dX2_firstWord_28 : decode cX2_firstWord 28 = .ok (.ifCond .eq 5, 3) := by decide +kernel
theorem dX2_firstWord_31 : decode cX2_firstWord 31 = .ok (.iconst 2, 1) := by decide +kernel
theorem dX2_firstWord_32 : decode cX2_firstWord 32 = .ok (.ireturn, 1) := by decide +kernel
theorem dX2_firstWord_33 : decode cX2_firstWord 33 = .ok (.aload_n 0, 1) := by decide +kernel
theorem dX2_firstWord_34 : decode cX2_firstWord 34 = .ok (.ldc 128, 2) := by decide +kernel
theorem dX2_firstWord_36 : decode cX2_firstWord 36 = .ok (.invokevirtual 120, 3) := by decide +kernel
theorem dX2_firstWord_39 : decode cX2_firstWord 39 = .ok (.ifCond .eq 5, 3) := by decide +kernel
theorem dX2_firstWord_42 : decode cX2_firstWord 42 = .ok (.iconst 3, 1) := by decide +kernel
theorem dX2_firstWord_43 : decode cX2_firstWord 43 = .ok (.ireturn, 1) := by decide +kernel
theorem dX2_firstWord_44 : decode cX2_firstWord 44 = .ok (.aload_n 0, 1) := by decide +kernel
theorem dX2_firstWord_45 : decode cX2_firstWord 45 = .ok (.ldc 130, 2) := by decide +kernel
theorem dX2_firstWord_47 : decode cX2_firstWord 47 = .ok (.invokevirtual 120, 3) := by decide +kernel
theorem dX2_firstWord_50 : decode cX2_firstWord 50 = .ok (.ifCond .eq 5, 3) := by decide +kernel
theorem dX2_firstWord_53 : decode cX2_firstWord 53 = .ok (.iconst 4, 1) := by decide +kernel
theorem dX2_firstWord_54 : decode cX2_firstWord 54 = .ok (.ireturn, 1) := by decide +kernel
theorem dX2_firstWord_55 : decode cX2_firstWord 55 = .ok (.aload_n 0, 1) := by decide +kernel
theorem dX2_firstWord_56 : decode cX2_firstWord 56 = .ok (.ldc 132, 2) := by decide +kernel
theorem dX2_firstWord_58 : decode cX2_firstWord 58 = .ok (.invokevirtual 120, 3) := by decide +kernel
theorem dX2_firstWord_61 : decode cX2_firstWord 61 = .ok (.ifCond .eq 5, 3) := by decide +kernel
theorem dX2_firstWord_64 : decode cX2_firstWord 64 = .ok (.iconst 5, 1) := by decide +kernel
theorem dX2_firstWord_65 : decode cX2_firstWord 65 = .ok (.ireturn, 1) := by decide +kernel
theorem dX2_firstWord_66 : decode cX2_firstWord 66 = .ok (.aload_n 0, 1) := by decide +kernel
theorem dX2_firstWord_67 : decode cX2_firstWord 67 = .ok (.ldc 134, 2) := by decide +kernel
theorem dX2_firstWord_69 : decode cX2_firstWord 69 = .ok (.invokevirtual 120, 3) := by decide +kernel
theorem dX2_firstWord_72 : decode cX2_firstWord 72 = .ok (.ifCond .eq 6, 3) := by decide +kernel
theorem dX2_firstWord_75 : decode cX2_firstWord 75 = .ok (.bipush 6, 2) := by decide +kernel
theorem dX2_firstWord_77 : decode cX2_firstWord 77 = .ok (.ireturn, 1) := by decide +kernel
theorem dX2_firstWord_78 : decode cX2_firstWord 78 = .ok (.aload_n 0, 1) := by decide +kernel
theorem dX2_firstWord_79 : decode cX2_firstWord 79 = .ok (.ldc 136, 2) := by decide +kernel
theorem dX2_firstWord_81 : decode cX2_firstWord 81 = .ok (.invokevirtual 120, 3) := by decide +kernel
theorem dX2_firstWord_84 : decode cX2_firstWord 84 = .ok (.ifCond .eq 6, 3) := by decide +kernel
theorem dX2_firstWord_87 : decode cX2_firstWord 87 = .ok (.bipush 7, 2) := by decide +kernel
theorem dX2_firstWord_89 : decode cX2_firstWord 89 = .ok (.ireturn, 1) := by decide +kernel
theorem dX2_firstWord_90 : decode cX2_firstWord 90 = .ok (.aload_n 0, 1) := by decide +kernel
theorem dX2_firstWord_91 : decode cX2_firstWord 91 = .ok (.ldc 138, 2) := by decide +kernel
theorem dX2_firstWord_93 : decode cX2_firstWord 93 = .ok (.invokevirtual 120, 3) := by decide +kernel
theorem dX2_firstWord_96 : decode cX2_firstWord 96 = .ok (.ifCond .eq 6, 3) := by decide +kernel
theorem dX2_firstWord_99 : decode cX2_firstWord 99 = .ok (.bipush 8, 2) := by decide +kernel
theorem dX2_firstWord_101 : decode cX2_firstWord 101 = .ok (.ireturn, 1) := by decide +kernel
theorem dX2_firstWord_102 : decode cX2_firstWord 102 = .ok (.aload_n 0, 1) := by decide +kernel
theorem dX2_firstWord_103 : decode cX2_firstWord 103 = .ok (.ldc 140, 2) := by decide +kernel
theorem dX2_firstWord_105 : decode cX2_firstWord 105 = .ok (.invokevirtual 120, 3) := by decide +kernel
theorem dX2_firstWord_108 : decode cX2_firstWord 108 = .ok (.ifCond .eq 6, 3) := by decide +kernel
theorem dX2_firstWord_111 : decode cX2_firstWord 111 = .ok (.bipush 9, 2) := by decide +kernel
theorem dX2_firstWord_113 : decode cX2_firstWord 113 = .ok (.ireturn, 1) := by decide +kernel
theorem dX2_firstWord_114 : decode cX2_firstWord 114 = .ok (.aload_n 0, 1) := by decide +kernel
theorem dX2_firstWord_115 : decode cX2_firstWord 115 = .ok (.ldc 142, 2) := by decide +kernel
theorem dX2_firstWord_117 : decode cX2_firstWord 117 = .ok (.invokevirtual 120, 3) := by decide +kernel
theorem dX2_firstWord_120 : decode cX2_firstWord 120 = .ok (.ifCond .eq 6, 3) := by decide +kernel
theorem dX2_firstWord_123 : decode cX2_firstWord 123 = .ok (.bipush 10, 2) := by decide +kernel
theorem dX2_firstWord_125 : decode cX2_firstWord 125 = .ok (.ireturn, 1) := by decide +kernel
theorem dX2_firstWord_126 : decode cX2_firstWord 126 = .ok (.aload_n 0, 1) := by decide +kernel
theorem dX2_firstWord_127 : decode cX2_firstWord 127 = .ok (.getfield 23, 3) := by decide +kernel
theorem dX2_firstWord_130 : decode cX2_firstWord 130 = .ok (.aload_n 0, 1) := by decide +kernel
theorem dX2_firstWord_131 : decode cX2_firstWord 131 = .ok (.invokevirtual 144, 3) := by decide +kernel
theorem dX2_firstWord_134 : decode cX2_firstWord 134 = .ok (.bipush 114, 2) := by decide +kernel
theorem dX2_firstWord_136 : decode cX2_firstWord 136 = .ok (.isub, 1) := by decide +kernel
theorem dX2_firstWord_137 : decode cX2_firstWord 137 = .ok (.invokevirtual 147, 3) := by decide +kernel
theorem dX2_firstWord_140 : decode cX2_firstWord 140 = .ok (.ifCond .eq 8, 3) := by decide +kernel
theorem dX2_firstWord_143 : decode cX2_firstWord 143 = .ok (.bipush 11, 2) := by decide +kernel
theorem dX2_firstWord_145 : decode cX2_firstWord 145 = .ok (.goto 4, 3) := by decide +kernel
theorem dX2_firstWord_148 : decode cX2_firstWord 148 = .ok (.iconst (-1), 1) := by decide +kernel
theorem dX2_firstWord_149 : decode cX2_firstWord 149 = .ok (.ireturn, 1) := by decide +kernel
theorem dX2_readBinder_0 : decode cX2_readBinder 0 = .ok (.iload_n 2, 1) := by decide +kernel
theorem dX2_readBinder_1 : decode cX2_readBinder 1 = .ok (.invokestatic 153, 3) := by decide +kernel
theorem dX2_readBinder_4 : decode cX2_readBinder 4 = .ok (.iconst 4, 1) := by decide +kernel
theorem dX2_readBinder_5 : decode cX2_readBinder 5 = .ok (.if_icmp .lt 12, 3) := by decide +kernel
theorem dX2_readBinder_8 : decode cX2_readBinder 8 = .ok (.aload_n 0, 1) := by decide +kernel
theorem dX2_readBinder_9 : decode cX2_readBinder 9 = .ok (.iconst 5, 1) := by decide +kernel
theorem dX2_readBinder_10 : decode cX2_readBinder 10 = .ok (.aload_n 0, 1) := by decide +kernel
theorem dX2_readBinder_11 : decode cX2_readBinder 11 = .ok (.getfield 49, 3) := by decide +kernel
theorem dX2_readBinder_14 : decode cX2_readBinder 14 = .ok (.invokevirtual 96, 3) := by decide +kernel
theorem dX2_readBinder_17 : decode cX2_readBinder 17 = .ok (.aload_n 0, 1) := by decide +kernel
theorem dX2_readBinder_18 : decode cX2_readBinder 18 = .ok (.invokevirtual 76, 3) := by decide +kernel
theorem dX2_readBinder_21 : decode cX2_readBinder 21 = .ok (.iload_n 1, 1) := by decide +kernel
theorem dX2_readBinder_22 : decode cX2_readBinder 22 = .ok (.iconst 2, 1) := by decide +kernel
theorem dX2_readBinder_23 : decode cX2_readBinder 23 = .ok (.if_icmp .eq 8, 3) := by decide +kernel
theorem dX2_readBinder_26 : decode cX2_readBinder 26 = .ok (.iload_n 1, 1) := by decide +kernel
theorem dX2_readBinder_27 : decode cX2_readBinder 27 = .ok (.iconst 3, 1) := by decide +kernel
theorem dX2_readBinder_28 : decode cX2_readBinder 28 = .ok (.if_icmp .ne 10, 3) := by decide +kernel
theorem dX2_readBinder_31 : decode cX2_readBinder 31 = .ok (.aload_n 0, 1) := by decide +kernel
theorem dX2_readBinder_32 : decode cX2_readBinder 32 = .ok (.invokevirtual 157, 3) := by decide +kernel
theorem dX2_readBinder_35 : decode cX2_readBinder 35 = .ok (.goto 4, 3) := by decide +kernel
theorem dX2_readBinder_38 : decode cX2_readBinder 38 = .ok (.iconst 0, 1) := by decide +kernel
theorem dX2_readBinder_39 : decode cX2_readBinder 39 = .ok (.istore_n 3, 1) := by decide +kernel
theorem dX2_readBinder_40 : decode cX2_readBinder 40 = .ok (.aload_n 0, 1) := by decide +kernel
theorem dX2_readBinder_41 : decode cX2_readBinder 41 = .ok (.invokevirtual 160, 3) := by decide +kernel
theorem dX2_readBinder_44 : decode cX2_readBinder 44 = .ok (.istore 4, 2) := by decide +kernel
theorem dX2_readBinder_46 : decode cX2_readBinder 46 = .ok (.aload_n 0, 1) := by decide +kernel
theorem dX2_readBinder_47 : decode cX2_readBinder 47 = .ok (.invokevirtual 163, 3) := by decide +kernel
theorem dX2_readBinder_50 : decode cX2_readBinder 50 = .ok (.istore 5, 2) := by decide +kernel
theorem dX2_readBinder_52 : decode cX2_readBinder 52 = .ok (.aload_n 0, 1) := by decide +kernel
theorem dX2_readBinder_53 : decode cX2_readBinder 53 = .ok (.getfield 27, 3) := by decide +kernel
theorem dX2_readBinder_56 : decode cX2_readBinder 56 = .ok (.ifCond .eq 4, 3) := by decide +kernel
theorem dX2_readBinder_59 : decode cX2_readBinder 59 = .ok (.return_, 1) := by decide +kernel
theorem dX2_readBinder_60 : decode cX2_readBinder 60 = .ok (.iload_n 2, 1) := by decide +kernel
theorem dX2_readBinder_61 : decode cX2_readBinder 61 = .ok (.invokestatic 153, 3) := by decide +kernel
theorem dX2_readBinder_64 : decode cX2_readBinder 64 = .ok (.iconst 3, 1) := by decide +kernel
theorem dX2_readBinder_65 : decode cX2_readBinder 65 = .ok (.invokestatic 166, 3) := by decide +kernel
theorem dX2_readBinder_68 : decode cX2_readBinder 68 = .ok (.istore 6, 2) := by decide +kernel
theorem dX2_readBinder_70 : decode cX2_readBinder 70 = .ok (.aload_n 0, 1) := by decide +kernel
theorem dX2_readBinder_71 : decode cX2_readBinder 71 = .ok (.getfield 36, 3) := by decide +kernel
theorem dX2_readBinder_74 : decode cX2_readBinder 74 = .ok (.iload_n 1, 1) := by decide +kernel
theorem dX2_readBinder_75 : decode cX2_readBinder 75 = .ok (.iload_n 3, 1) := by decide +kernel
theorem dX2_readBinder_76 : decode cX2_readBinder 76 = .ok (.iload 6, 2) := by decide +kernel
theorem dX2_readBinder_78 : decode cX2_readBinder 78 = .ok (.iload 5, 2) := by decide +kernel
theorem dX2_readBinder_80 : decode cX2_readBinder 80 = .ok (.invokevirtual 172, 3) := by decide +kernel
theorem dX2_readBinder_83 : decode cX2_readBinder 83 = .ok (.aload_n 0, 1) := by decide +kernel
theorem dX2_readBinder_84 : decode cX2_readBinder 84 = .ok (.iload_n 2, 1) := by decide +kernel
theorem dX2_readBinder_85 : decode cX2_readBinder 85 = .ok (.iload 4, 2) := by decide +kernel
theorem dX2_readBinder_87 : decode cX2_readBinder 87 = .ok (.iload 5, 2) := by decide +kernel
theorem dX2_readBinder_89 : decode cX2_readBinder 89 = .ok (.iload 6, 2) := by decide +kernel
theorem dX2_readBinder_91 : decode cX2_readBinder 91 = .ok (.invokestatic 176, 3) := by decide +kernel
theorem dX2_readBinder_94 : decode cX2_readBinder 94 = .ok (.invokevirtual 73, 3) := by decide +kernel
theorem dX2_readBinder_97 : decode cX2_readBinder 97 = .ok (.return_, 1) := by decide +kernel
theorem dX2_readJoint_0 : decode cX2_readJoint 0 = .ok (.aload_n 0, 1) := by decide +kernel
theorem dX2_readJoint_1 : decode cX2_readJoint 1 = .ok (.invokevirtual 76, 3) := by decide +kernel
theorem dX2_readJoint_4 : decode cX2_readJoint 4 = .ok (.aload_n 0, 1) := by decide +kernel
theorem dX2_readJoint_5 : decode cX2_readJoint 5 = .ok (.getfield 36, 3) := by decide +kernel
theorem dX2_readJoint_8 : decode cX2_readJoint 8 = .ok (.iload_n 1, 1) := by decide +kernel
theorem dX2_readJoint_9 : decode cX2_readJoint 9 = .ok (.iconst 0, 1) := by decide +kernel
theorem dX2_readJoint_10 : decode cX2_readJoint 10 = .ok (.iconst 0, 1) := by decide +kernel
theorem dX2_readJoint_11 : decode cX2_readJoint 11 = .ok (.iconst 0, 1) := by decide +kernel
theorem dX2_readJoint_12 : decode cX2_readJoint 12 = .ok (.invokevirtual 172, 3) := by decide +kernel
theorem dX2_readJoint_15 : decode cX2_readJoint 15 = .ok (.aload_n 0, 1) := by decide +kernel
theorem dX2_readJoint_16 : decode cX2_readJoint 16 = .ok (.iload_n 2, 1) := by decide +kernel
theorem dX2_readJoint_17 : decode cX2_readJoint 17 = .ok (.invokevirtual 73, 3) := by decide +kernel
theorem dX2_readJoint_20 : decode cX2_readJoint 20 = .ok (.return_, 1) := by decide +kernel
theorem dX2_readSame_0 : decode cX2_readSame 0 = .ok (.aload_n 0, 1) := by decide +kernel
theorem dX2_readSame_1 : decode cX2_readSame 1 = .ok (.invokevirtual 76, 3) := by decide +kernel
theorem dX2_readSame_4 : decode cX2_readSame 4 = .ok (.aload_n 0, 1) := by decide +kernel
theorem dX2_readSame_5 : decode cX2_readSame 5 = .ok (.iload_n 1, 1) := by decide +kernel
theorem dX2_readSame_6 : decode cX2_readSame 6 = .ok (.iconst (-1), 1) := by decide +kernel
theorem dX2_readSame_7 : decode cX2_readSame 7 = .ok (.invokevirtual 180, 3) := by decide +kernel
theorem dX2_readSame_10 : decode cX2_readSame 10 = .ok (.istore_n 2, 1) := by decide +kernel
theorem dX2_readSame_11 : decode cX2_readSame 11 = .ok (.aload_n 0, 1) := by decide +kernel
theorem dX2_readSame_12 : decode cX2_readSame 12 = .ok (.iload_n 1, 1) := by decide +kernel
theorem dX2_readSame_13 : decode cX2_readSame 13 = .ok (.iload_n 2, 1) := by decide +kernel
theorem dX2_readSame_14 : decode cX2_readSame 14 = .ok (.invokestatic 183, 3) := by decide +kernel
theorem dX2_readSame_17 : decode cX2_readSame 17 = .ok (.invokevirtual 180, 3) := by decide +kernel
theorem dX2_readSame_20 : decode cX2_readSame 20 = .ok (.istore_n 3, 1) := by decide +kernel
theorem dX2_readSame_21 : decode cX2_readSame 21 = .ok (.aload_n 0, 1) := by decide +kernel
theorem dX2_readSame_22 : decode cX2_readSame 22 = .ok (.getfield 36, 3) := by decide +kernel
theorem dX2_readSame_25 : decode cX2_readSame 25 = .ok (.bipush 8, 2) := by decide +kernel
theorem dX2_readSame_27 : decode cX2_readSame 27 = .ok (.iconst 0, 1) := by decide +kernel
theorem dX2_readSame_28 : decode cX2_readSame 28 = .ok (.iload_n 2, 1) := by decide +kernel
theorem dX2_readSame_29 : decode cX2_readSame 29 = .ok (.invokestatic 186, 3) := by decide +kernel
theorem dX2_readSame_32 : decode cX2_readSame 32 = .ok (.iload_n 3, 1) := by decide +kernel
theorem dX2_readSame_33 : decode cX2_readSame 33 = .ok (.invokestatic 186, 3) := by decide +kernel
theorem dX2_readSame_36 : decode cX2_readSame 36 = .ok (.invokevirtual 172, 3) := by decide +kernel
theorem dX2_readSame_39 : decode cX2_readSame 39 = .ok (.return_, 1) := by decide +kernel
theorem dX2_readReach_0 : decode cX2_readReach 0 = .ok (.aload_n 0, 1) := by decide +kernel
theorem dX2_readReach_1 : decode cX2_readReach 1 = .ok (.invokevirtual 76, 3) := by decide +kernel
theorem dX2_readReach_4 : decode cX2_readReach 4 = .ok (.aload_n 0, 1) := by decide +kernel
theorem dX2_readReach_5 : decode cX2_readReach 5 = .ok (.invokevirtual 189, 3) := by decide +kernel
theorem dX2_readReach_8 : decode cX2_readReach 8 = .ok (.istore_n 2, 1) := by decide +kernel
theorem dX2_readReach_9 : decode cX2_readReach 9 = .ok (.aload_n 0, 1) := by decide +kernel
theorem dX2_readReach_10 : decode cX2_readReach 10 = .ok (.getfield 23, 3) := by decide +kernel
theorem dX2_readReach_13 : decode cX2_readReach 13 = .ok (.iload_n 2, 1) := by decide +kernel
theorem dX2_readReach_14 : decode cX2_readReach 14 = .ok (.invokevirtual 192, 3) := by decide +kernel
theorem dX2_readReach_17 : decode cX2_readReach 17 = .ok (.ifCond .eq 15, 3) := by decide +kernel
theorem dX2_readReach_20 : decode cX2_readReach 20 = .ok (.aload_n 0, 1) := by decide +kernel
theorem dX2_readReach_21 : decode cX2_readReach 21 = .ok (.getfield 23, 3) := by decide +kernel
theorem dX2_readReach_24 : decode cX2_readReach 24 = .ok (.getfield 195, 3) := by decide +kernel
theorem dX2_readReach_27 : decode cX2_readReach 27 = .ok (.iload_n 2, 1) := by decide +kernel
theorem dX2_readReach_28 : decode cX2_readReach 28 = .ok (.iaload, 1) := by decide +kernel
theorem dX2_readReach_29 : decode cX2_readReach 29 = .ok (.goto 4, 3) := by decide +kernel
theorem dX2_readReach_32 : decode cX2_readReach 32 = .ok (.iconst (-1), 1) := by decide +kernel
theorem dX2_readReach_33 : decode cX2_readReach 33 = .ok (.istore_n 3, 1) := by decide +kernel
theorem dX2_readReach_34 : decode cX2_readReach 34 = .ok (.aload_n 0, 1) := by decide +kernel
theorem dX2_readReach_35 : decode cX2_readReach 35 = .ok (.iload_n 1, 1) := by decide +kernel
theorem dX2_readReach_36 : decode cX2_readReach 36 = .ok (.iload_n 3, 1) := by decide +kernel
theorem dX2_readReach_37 : decode cX2_readReach 37 = .ok (.invokevirtual 180, 3) := by decide +kernel
theorem dX2_readReach_40 : decode cX2_readReach 40 = .ok (.istore 4, 2) := by decide +kernel
theorem dX2_readReach_42 : decode cX2_readReach 42 = .ok (.aload_n 0, 1) := by decide +kernel
theorem dX2_readReach_43 : decode cX2_readReach 43 = .ok (.iload_n 1, 1) := by decide +kernel
theorem dX2_readReach_44 : decode cX2_readReach 44 = .ok (.iload_n 3, 1) := by decide +kernel
theorem dX2_readReach_45 : decode cX2_readReach 45 = .ok (.invokevirtual 180, 3) := by decide +kernel
theorem dX2_readReach_48 : decode cX2_readReach 48 = .ok (.istore 5, 2) := by decide +kernel
theorem dX2_readReach_50 : decode cX2_readReach 50 = .ok (.aload_n 0, 1) := by decide +kernel
theorem dX2_readReach_51 : decode cX2_readReach 51 = .ok (.getfield 36, 3) := by decide +kernel
theorem dX2_readReach_54 : decode cX2_readReach 54 = .ok (.bipush 9, 2) := by decide +kernel
theorem dX2_readReach_56 : decode cX2_readReach 56 = .ok (.iload_n 2, 1) := by decide +kernel
theorem dX2_readReach_57 : decode cX2_readReach 57 = .ok (.iload 4, 2) := by decide +kernel
theorem dX2_readReach_59 : decode cX2_readReach 59 = .ok (.invokestatic 186, 3) := by decide +kernel
theorem dX2_readReach_62 : decode cX2_readReach 62 = .ok (.iload 5, 2) := by decide +kernel
theorem dX2_readReach_64 : decode cX2_readReach 64 = .ok (.invokestatic 186, 3) := by decide +kernel
theorem dX2_readReach_67 : decode cX2_readReach 67 = .ok (.invokevirtual 172, 3) := by decide +kernel
theorem dX2_readReach_70 : decode cX2_readReach 70 = .ok (.return_, 1) := by decide +kernel
theorem dX2_readTree_0 : decode cX2_readTree 0 = .ok (.aload_n 0, 1) := by decide +kernel
theorem dX2_readTree_1 : decode cX2_readTree 1 = .ok (.invokevirtual 76, 3) := by decide +kernel
theorem dX2_readTree_4 : decode cX2_readTree 4 = .ok (.aload_n 0, 1) := by decide +kernel
theorem dX2_readTree_5 : decode cX2_readTree 5 = .ok (.getfield 36, 3) := by decide +kernel
theorem dX2_readTree_8 : decode cX2_readTree 8 = .ok (.bipush 10, 2) := by decide +kernel
theorem dX2_readTree_10 : decode cX2_readTree 10 = .ok (.aload_n 0, 1) := by decide +kernel
theorem dX2_readTree_11 : decode cX2_readTree 11 = .ok (.invokevirtual 189, 3) := by decide +kernel
theorem dX2_readTree_14 : decode cX2_readTree 14 = .ok (.iconst 0, 1) := by decide +kernel
theorem dX2_readTree_15 : decode cX2_readTree 15 = .ok (.iconst 0, 1) := by decide +kernel
theorem dX2_readTree_16 : decode cX2_readTree 16 = .ok (.invokevirtual 172, 3) := by decide +kernel
theorem dX2_readTree_19 : decode cX2_readTree 19 = .ok (.return_, 1) := by decide +kernel
theorem dX2_readFact_0 : decode cX2_readFact 0 = .ok (.aload_n 0, 1) := by decide +kernel
theorem dX2_readFact_1 : decode cX2_readFact 1 = .ok (.invokevirtual 198, 3) := by decide +kernel
theorem dX2_readFact_4 : decode cX2_readFact 4 = .ok (.istore_n 2, 1) := by decide +kernel
theorem dX2_readFact_5 : decode cX2_readFact 5 = .ok (.aload_n 0, 1) := by decide +kernel
theorem dX2_readFact_6 : decode cX2_readFact 6 = .ok (.getfield 23, 3) := by decide +kernel
theorem dX2_readFact_9 : decode cX2_readFact 9 = .ok (.iload_n 2, 1) := by decide +kernel
theorem dX2_readFact_10 : decode cX2_readFact 10 = .ok (.invokevirtual 147, 3) := by decide +kernel
theorem dX2_readFact_13 : decode cX2_readFact 13 = .ok (.ifCond .ne 4, 3) := by decide +kernel
theorem dX2_readFact_16 : decode cX2_readFact 16 = .ok (.return_, 1) := by decide +kernel
theorem dX2_readFact_17 : decode cX2_readFact 17 = .ok (.aload_n 0, 1) := by decide +kernel
theorem dX2_readFact_18 : decode cX2_readFact 18 = .ok (.iload_n 1, 1) := by decide +kernel
theorem dX2_readFact_19 : decode cX2_readFact 19 = .ok (.aload_n 0, 1) := by decide +kernel
theorem dX2_readFact_20 : decode cX2_readFact 20 = .ok (.getfield 23, 3) := by decide +kernel
theorem dX2_readFact_23 : decode cX2_readFact 23 = .ok (.getfield 195, 3) := by decide +kernel
theorem dX2_readFact_26 : decode cX2_readFact 26 = .ok (.iload_n 2, 1) := by decide +kernel
theorem dX2_readFact_27 : decode cX2_readFact 27 = .ok (.iaload, 1) := by decide +kernel
theorem dX2_readFact_28 : decode cX2_readFact 28 = .ok (.invokevirtual 180, 3) := by decide +kernel
theorem dX2_readFact_31 : decode cX2_readFact 31 = .ok (.istore_n 3, 1) := by decide +kernel
theorem dX2_readFact_32 : decode cX2_readFact 32 = .ok (.aload_n 0, 1) := by decide +kernel
theorem dX2_readFact_33 : decode cX2_readFact 33 = .ok (.getfield 23, 3) := by decide +kernel
theorem dX2_readFact_36 : decode cX2_readFact 36 = .ok (.iload_n 2, 1) := by decide +kernel
theorem dX2_readFact_37 : decode cX2_readFact 37 = .ok (.invokevirtual 201, 3) := by decide +kernel
theorem dX2_readFact_40 : decode cX2_readFact 40 = .ok (.ifCond .eq 20, 3) := by decide +kernel
theorem dX2_readFact_43 : decode cX2_readFact 43 = .ok (.aload_n 0, 1) := by decide +kernel
theorem dX2_readFact_44 : decode cX2_readFact 44 = .ok (.iload_n 1, 1) := by decide +kernel
theorem dX2_readFact_45 : decode cX2_readFact 45 = .ok (.aload_n 0, 1) := by decide +kernel
theorem dX2_readFact_46 : decode cX2_readFact 46 = .ok (.getfield 23, 3) := by decide +kernel
theorem dX2_readFact_49 : decode cX2_readFact 49 = .ok (.getfield 204, 3) := by decide +kernel
theorem dX2_readFact_52 : decode cX2_readFact 52 = .ok (.iload_n 2, 1) := by decide +kernel
theorem dX2_readFact_53 : decode cX2_readFact 53 = .ok (.iaload, 1) := by decide +kernel
theorem dX2_readFact_54 : decode cX2_readFact 54 = .ok (.invokevirtual 180, 3) := by decide +kernel
theorem dX2_readFact_57 : decode cX2_readFact 57 = .ok (.goto 4, 3) := by decide +kernel
theorem dX2_readFact_60 : decode cX2_readFact 60 = .ok (.iconst 0, 1) := by decide +kernel
theorem dX2_readFact_61 : decode cX2_readFact 61 = .ok (.istore 4, 2) := by decide +kernel
theorem dX2_readFact_63 : decode cX2_readFact 63 = .ok (.aload_n 0, 1) := by decide +kernel
theorem dX2_readFact_64 : decode cX2_readFact 64 = .ok (.getfield 36, 3) := by decide +kernel
theorem dX2_readFact_67 : decode cX2_readFact 67 = .ok (.bipush 11, 2) := by decide +kernel
theorem dX2_readFact_69 : decode cX2_readFact 69 = .ok (.iload_n 2, 1) := by decide +kernel
theorem dX2_readFact_70 : decode cX2_readFact 70 = .ok (.iload_n 3, 1) := by decide +kernel
theorem dX2_readFact_71 : decode cX2_readFact 71 = .ok (.invokestatic 186, 3) := by decide +kernel
theorem dX2_readFact_74 : decode cX2_readFact 74 = .ok (.iload 4, 2) := by decide +kernel
theorem dX2_readFact_76 : decode cX2_readFact 76 = .ok (.invokestatic 186, 3) := by decide +kernel
theorem dX2_readFact_79 : decode cX2_readFact 79 = .ok (.invokevirtual 172, 3) := by decide +kernel
theorem dX2_readFact_82 : decode cX2_readFact 82 = .ok (.return_, 1) := by decide +kernel
theorem dX2_takeNumber_0 : decode cX2_takeNumber 0 = .ok (.aload_n 0, 1) := by decide +kernel
theorem dX2_takeNumber_1 : decode cX2_takeNumber 1 = .ok (.getfield 46, 3) := by decide +kernel
theorem dX2_takeNumber_4 : decode cX2_takeNumber 4 = .ok (.iconst 2, 1) := by decide +kernel
theorem dX2_takeNumber_5 : decode cX2_takeNumber 5 = .ok (.if_icmp .eq 7, 3) := by decide +kernel
theorem dX2_takeNumber_8 : decode cX2_takeNumber 8 = .ok (.aload_n 0, 1) := by decide +kernel
theorem dX2_takeNumber_9 : decode cX2_takeNumber 9 = .ok (.invokevirtual 82, 3) := by decide +kernel
theorem dX2_takeNumber_12 : decode cX2_takeNumber 12 = .ok (.aload_n 0, 1) := by decide +kernel
theorem dX2_takeNumber_13 : decode cX2_takeNumber 13 = .ok (.getfield 27, 3) := by decide +kernel
theorem dX2_takeNumber_16 : decode cX2_takeNumber 16 = .ok (.ifCond .eq 5, 3) := by decide +kernel
theorem dX2_takeNumber_19 : decode cX2_takeNumber 19 = .ok (.iconst (-1), 1) := by decide +kernel
theorem dX2_takeNumber_20 : decode cX2_takeNumber 20 = .ok (.ireturn, 1) := by decide +kernel
theorem dX2_takeNumber_21 : decode cX2_takeNumber 21 = .ok (.aload_n 0, 1) := by decide +kernel
theorem dX2_takeNumber_22 : decode cX2_takeNumber 22 = .ok (.getfield 55, 3) := by decide +kernel
theorem dX2_takeNumber_25 : decode cX2_takeNumber 25 = .ok (.istore_n 1, 1) := by decide +kernel
theorem dX2_takeNumber_26 : decode cX2_takeNumber 26 = .ok (.aload_n 0, 1) := by decide +kernel
theorem dX2_takeNumber_27 : decode cX2_takeNumber 27 = .ok (.invokevirtual 76, 3) := by decide +kernel
theorem dX2_takeNumber_30 : decode cX2_takeNumber 30 = .ok (.iload_n 1, 1) := by decide +kernel
theorem dX2_takeNumber_31 : decode cX2_takeNumber 31 = .ok (.ireturn, 1) := by decide +kernel
theorem dX2_takeVariable_0 : decode cX2_takeVariable 0 = .ok (.aload_n 0, 1) := by decide +kernel
theorem dX2_takeVariable_1 : decode cX2_takeVariable 1 = .ok (.invokevirtual 144, 3) := by decide +kernel
theorem dX2_takeVariable_4 : decode cX2_takeVariable 4 = .ok (.istore_n 1, 1) := by decide +kernel
theorem dX2_takeVariable_5 : decode cX2_takeVariable 5 = .ok (.iload_n 1, 1) := by decide +kernel
theorem dX2_takeVariable_6 : decode cX2_takeVariable 6 = .ok (.bipush 119, 2) := by decide +kernel
theorem dX2_takeVariable_8 : decode cX2_takeVariable 8 = .ok (.if_icmp .lt 9, 3) := by decide +kernel
theorem dX2_takeVariable_11 : decode cX2_takeVariable 11 = .ok (.iload_n 1, 1) := by decide +kernel
theorem dX2_takeVariable_12 : decode cX2_takeVariable 12 = .ok (.bipush 122, 2) := by decide +kernel
theorem dX2_takeVariable_14 : decode cX2_takeVariable 14 = .ok (.if_icmp .le 7, 3) := by decide +kernel
theorem dX2_takeVariable_17 : decode cX2_takeVariable 17 = .ok (.aload_n 0, 1) := by decide +kernel
theorem dX2_takeVariable_18 : decode cX2_takeVariable 18 = .ok (.invokevirtual 82, 3) := by decide +kernel
theorem dX2_takeVariable_21 : decode cX2_takeVariable 21 = .ok (.aload_n 0, 1) := by decide +kernel
theorem dX2_takeVariable_22 : decode cX2_takeVariable 22 = .ok (.getfield 27, 3) := by decide +kernel
theorem dX2_takeVariable_25 : decode cX2_takeVariable 25 = .ok (.ifCond .eq 5, 3) := by decide +kernel
theorem dX2_takeVariable_28 : decode cX2_takeVariable 28 = .ok (.iconst (-1), 1) := by decide +kernel
theorem dX2_takeVariable_29 : decode cX2_takeVariable 29 = .ok (.ireturn, 1) := by decide +kernel
theorem dX2_takeVariable_30 : decode cX2_takeVariable 30 = .ok (.aload_n 0, 1) := by decide +kernel
theorem dX2_takeVariable_31 : decode cX2_takeVariable 31 = .ok (.invokevirtual 76, 3) := by decide +kernel
theorem dX2_takeVariable_34 : decode cX2_takeVariable 34 = .ok (.iload_n 1, 1) := by decide +kernel
theorem dX2_takeVariable_35 : decode cX2_takeVariable 35 = .ok (.bipush 119, 2) := by decide +kernel
theorem dX2_takeVariable_37 : decode cX2_takeVariable 37 = .ok (.isub, 1) := by decide +kernel
theorem dX2_takeVariable_38 : decode cX2_takeVariable 38 = .ok (.ireturn, 1) := by decide +kernel
theorem dX2_takeKind_0 : decode cX2_takeKind 0 = .ok (.iconst (-1), 1) := by decide +kernel
theorem dX2_takeKind_1 : decode cX2_takeKind 1 = .ok (.istore_n 1, 1) := by decide +kernel
theorem dX2_takeKind_2 : decode cX2_takeKind 2 = .ok (.aload_n 0, 1) := by decide +kernel
theorem dX2_takeKind_3 : decode cX2_takeKind 3 = .ok (.ldc 207, 2) := by decide +kernel
theorem dX2_takeKind_5 : decode cX2_takeKind 5 = .ok (.invokevirtual 120, 3) := by decide +kernel
theorem dX2_takeKind_8 : decode cX2_takeKind 8 = .ok (.ifCond .eq 8, 3) := by decide +kernel
theorem dX2_takeKind_11 : decode cX2_takeKind 11 = .ok (.iconst 0, 1) := by decide +kernel
theorem dX2_takeKind_12 : decode cX2_takeKind 12 = .ok (.istore_n 1, 1) := by decide +kernel
theorem dX2_takeKind_13 : decode cX2_takeKind 13 = .ok (.goto 35, 3) := by decide +kernel
theorem dX2_takeKind_16 : decode cX2_takeKind 16 = .ok (.aload_n 0, 1) := by decide +kernel
theorem dX2_takeKind_17 : decode cX2_takeKind 17 = .ok (.ldc 209, 2) := by decide +kernel
theorem dX2_takeKind_19 : decode cX2_takeKind 19 = .ok (.invokevirtual 120, 3) := by decide +kernel
theorem dX2_takeKind_22 : decode cX2_takeKind 22 = .ok (.ifCond .eq 8, 3) := by decide +kernel
theorem dX2_takeKind_25 : decode cX2_takeKind 25 = .ok (.iconst 1, 1) := by decide +kernel
theorem dX2_takeKind_26 : decode cX2_takeKind 26 = .ok (.istore_n 1, 1) := by decide +kernel
theorem dX2_takeKind_27 : decode cX2_takeKind 27 = .ok (.goto 21, 3) := by decide +kernel
theorem dX2_takeKind_30 : decode cX2_takeKind 30 = .ok (.aload_n 0, 1) := by decide +kernel
theorem dX2_takeKind_31 : decode cX2_takeKind 31 = .ok (.ldc 211, 2) := by decide +kernel
theorem dX2_takeKind_33 : decode cX2_takeKind 33 = .ok (.invokevirtual 120, 3) := by decide +kernel
theorem dX2_takeKind_36 : decode cX2_takeKind 36 = .ok (.ifCond .eq 8, 3) := by decide +kernel
theorem dX2_takeKind_39 : decode cX2_takeKind 39 = .ok (.iconst 2, 1) := by decide +kernel
theorem dX2_takeKind_40 : decode cX2_takeKind 40 = .ok (.istore_n 1, 1) := by decide +kernel
theorem dX2_takeKind_41 : decode cX2_takeKind 41 = .ok (.goto 7, 3) := by decide +kernel
theorem dX2_takeKind_44 : decode cX2_takeKind 44 = .ok (.aload_n 0, 1) := by decide +kernel
theorem dX2_takeKind_45 : decode cX2_takeKind 45 = .ok (.invokevirtual 82, 3) := by decide +kernel
theorem dX2_takeKind_48 : decode cX2_takeKind 48 = .ok (.aload_n 0, 1) := by decide +kernel
theorem dX2_takeKind_49 : decode cX2_takeKind 49 = .ok (.getfield 27, 3) := by decide +kernel
theorem dX2_takeKind_52 : decode cX2_takeKind 52 = .ok (.ifCond .eq 5, 3) := by decide +kernel
theorem dX2_takeKind_55 : decode cX2_takeKind 55 = .ok (.iconst (-1), 1) := by decide +kernel
theorem dX2_takeKind_56 : decode cX2_takeKind 56 = .ok (.ireturn, 1) := by decide +kernel
theorem dX2_takeKind_57 : decode cX2_takeKind 57 = .ok (.aload_n 0, 1) := by decide +kernel
theorem dX2_takeKind_58 : decode cX2_takeKind 58 = .ok (.invokevirtual 76, 3) := by decide +kernel
theorem dX2_takeKind_61 : decode cX2_takeKind 61 = .ok (.iload_n 1, 1) := by decide +kernel
theorem dX2_takeKind_62 : decode cX2_takeKind 62 = .ok (.ireturn, 1) := by decide +kernel
theorem dX2_takeRelation_0 : decode cX2_takeRelation 0 = .ok (.aload_n 0, 1) := by decide +kernel
theorem dX2_takeRelation_1 : decode cX2_takeRelation 1 = .ok (.invokevirtual 144, 3) := by decide +kernel
theorem dX2_takeRelation_4 : decode cX2_takeRelation 4 = .ok (.bipush 114, 2) := by decide +kernel
theorem dX2_takeRelation_6 : decode cX2_takeRelation 6 = .ok (.isub, 1) := by decide +kernel
theorem dX2_takeRelation_7 : decode cX2_takeRelation 7 = .ok (.istore_n 1, 1) := by decide +kernel
theorem dX2_takeRelation_8 : decode cX2_takeRelation 8 = .ok (.aload_n 0, 1) := by decide +kernel
theorem dX2_takeRelation_9 : decode cX2_takeRelation 9 = .ok (.getfield 23, 3) := by decide +kernel
theorem dX2_takeRelation_12 : decode cX2_takeRelation 12 = .ok (.iload_n 1, 1) := by decide +kernel
theorem dX2_takeRelation_13 : decode cX2_takeRelation 13 = .ok (.invokevirtual 147, 3) := by decide +kernel
theorem dX2_takeRelation_16 : decode cX2_takeRelation 16 = .ok (.ifCond .ne 7, 3) := by decide +kernel
theorem dX2_takeRelation_19 : decode cX2_takeRelation 19 = .ok (.aload_n 0, 1) := by decide +kernel
theorem dX2_takeRelation_20 : decode cX2_takeRelation 20 = .ok (.invokevirtual 82, 3) := by decide +kernel
theorem dX2_takeRelation_23 : decode cX2_takeRelation 23 = .ok (.aload_n 0, 1) := by decide +kernel
theorem dX2_takeRelation_24 : decode cX2_takeRelation 24 = .ok (.getfield 27, 3) := by decide +kernel
theorem dX2_takeRelation_27 : decode cX2_takeRelation 27 = .ok (.ifCond .eq 5, 3) := by decide +kernel
theorem dX2_takeRelation_30 : decode cX2_takeRelation 30 = .ok (.iconst (-1), 1) := by decide +kernel
theorem dX2_takeRelation_31 : decode cX2_takeRelation 31 = .ok (.ireturn, 1) := by decide +kernel
theorem dX2_takeRelation_32 : decode cX2_takeRelation 32 = .ok (.aload_n 0, 1) := by decide +kernel
theorem dX2_takeRelation_33 : decode cX2_takeRelation 33 = .ok (.invokevirtual 76, 3) := by decide +kernel
theorem dX2_takeRelation_36 : decode cX2_takeRelation 36 = .ok (.iload_n 1, 1) := by decide +kernel
theorem dX2_takeRelation_37 : decode cX2_takeRelation 37 = .ok (.ireturn, 1) := by decide +kernel
theorem dX2_takeRoad_0 : decode cX2_takeRoad 0 = .ok (.aload_n 0, 1) := by decide +kernel
theorem dX2_takeRoad_1 : decode cX2_takeRoad 1 = .ok (.getfield 49, 3) := by decide +kernel
theorem dX2_takeRoad_4 : decode cX2_takeRoad 4 = .ok (.istore_n 1, 1) := by decide +kernel
theorem dX2_takeRoad_5 : decode cX2_takeRoad 5 = .ok (.aload_n 0, 1) := by decide +kernel
theorem dX2_takeRoad_6 : decode cX2_takeRoad 6 = .ok (.invokevirtual 198, 3) := by decide +kernel
theorem dX2_takeRoad_9 : decode cX2_takeRoad 9 = .ok (.istore_n 2, 1) := by decide +kernel
theorem dX2_takeRoad_10 : decode cX2_takeRoad 10 = .ok (.aload_n 0, 1) := by decide +kernel
theorem dX2_takeRoad_11 : decode cX2_takeRoad 11 = .ok (.getfield 23, 3) := by decide +kernel
theorem dX2_takeRoad_14 : decode cX2_takeRoad 14 = .ok (.iload_n 2, 1) := by decide +kernel
theorem dX2_takeRoad_15 : decode cX2_takeRoad 15 = .ok (.invokevirtual 192, 3) := by decide +kernel
theorem dX2_takeRoad_18 : decode cX2_takeRoad 18 = .ok (.ifCond .ne 9, 3) := by decide +kernel
theorem dX2_takeRoad_21 : decode cX2_takeRoad 21 = .ok (.aload_n 0, 1) := by decide +kernel
theorem dX2_takeRoad_22 : decode cX2_takeRoad 22 = .ok (.iconst 3, 1) := by decide +kernel
theorem dX2_takeRoad_23 : decode cX2_takeRoad 23 = .ok (.iload_n 1, 1) := by decide +kernel
theorem dX2_takeRoad_24 : decode cX2_takeRoad 24 = .ok (.invokevirtual 96, 3) := by decide +kernel
theorem dX2_takeRoad_27 : decode cX2_takeRoad 27 = .ok (.iload_n 2, 1) := by decide +kernel
theorem dX2_takeRoad_28 : decode cX2_takeRoad 28 = .ok (.ireturn, 1) := by decide +kernel
theorem dX2_takeBound_0 : decode cX2_takeBound 0 = .ok (.aload_n 0, 1) := by decide +kernel
theorem dX2_takeBound_1 : decode cX2_takeBound 1 = .ok (.getfield 49, 3) := by decide +kernel
theorem dX2_takeBound_4 : decode cX2_takeBound 4 = .ok (.istore_n 3, 1) := by decide +kernel
theorem dX2_takeBound_5 : decode cX2_takeBound 5 = .ok (.aload_n 0, 1) := by decide +kernel
theorem dX2_takeBound_6 : decode cX2_takeBound 6 = .ok (.invokevirtual 160, 3) := by decide +kernel
theorem dX2_takeBound_9 : decode cX2_takeBound 9 = .ok (.istore 4, 2) := by decide +kernel
theorem dX2_takeBound_11 : decode cX2_takeBound 11 = .ok (.iload 4, 2) := by decide +kernel
theorem dX2_takeBound_13 : decode cX2_takeBound 13 = .ok (.iconst (-1), 1) := by decide +kernel
theorem dX2_takeBound_14 : decode cX2_takeBound 14 = .ok (.if_icmp .ne 5, 3) := by decide +kernel
theorem dX2_takeBound_17 : decode cX2_takeBound 17 = .ok (.iconst 0, 1) := by decide +kernel
theorem dX2_takeBound_18 : decode cX2_takeBound 18 = .ok (.ireturn, 1) := by decide +kernel
theorem dX2_takeBound_19 : decode cX2_takeBound 19 = .ok (.iload_n 1, 1) := by decide +kernel
theorem dX2_takeBound_20 : decode cX2_takeBound 20 = .ok (.iconst 4, 1) := by decide +kernel
theorem dX2_takeBound_21 : decode cX2_takeBound 21 = .ok (.iload 4, 2) := by decide +kernel
theorem dX2_takeBound_23 : decode cX2_takeBound 23 = .ok (.imul, 1) := by decide +kernel
theorem dX2_takeBound_24 : decode cX2_takeBound 24 = .ok (.ishr, 1) := by decide +kernel
theorem dX2_takeBound_25 : decode cX2_takeBound 25 = .ok (.bipush 15, 2) := by decide +kernel
theorem dX2_takeBound_27 : decode cX2_takeBound 27 = .ok (.iand, 1) := by decide +kernel
theorem dX2_takeBound_28 : decode cX2_takeBound 28 = .ok (.istore 5, 2) := by decide +kernel
theorem dX2_takeBound_30 : decode cX2_takeBound 30 = .ok (.iload 5, 2) := by decide +kernel
theorem dX2_takeBound_32 : decode cX2_takeBound 32 = .ok (.ifCond .ne 12, 3) := by decide +kernel
theorem dX2_takeBound_35 : decode cX2_takeBound 35 = .ok (.aload_n 0, 1) := by decide +kernel
theorem dX2_takeBound_36 : decode cX2_takeBound 36 = .ok (.iconst 2, 1) := by decide +kernel
theorem dX2_takeBound_37 : decode cX2_takeBound 37 = .ok (.iload_n 3, 1) := by decide +kernel
theorem dX2_takeBound_38 : decode cX2_takeBound 38 = .ok (.invokevirtual 96, 3) := by decide +kernel
theorem dX2_takeBound_41 : decode cX2_takeBound 41 = .ok (.goto 23, 3) := by decide +kernel
theorem dX2_takeBound_44 : decode cX2_takeBound 44 = .ok (.iload_n 2, 1) := by decide +kernel
theorem dX2_takeBound_45 : decode cX2_takeBound 45 = .ok (.iconst (-1), 1) := by decide +kernel
theorem dX2_takeBound_46 : decode cX2_takeBound 46 = .ok (.if_icmp .eq 18, 3) := by decide +kernel
theorem dX2_takeBound_49 : decode cX2_takeBound 49 = .ok (.iload 5, 2) := by decide +kernel
theorem dX2_takeBound_51 : decode cX2_takeBound 51 = .ok (.invokestatic 183, 3) := by decide +kernel
theorem dX2_takeBound_54 : decode cX2_takeBound 54 = .ok (.iload_n 2, 1) := by decide +kernel
theorem dX2_takeBound_55 : decode cX2_takeBound 55 = .ok (.if_icmp .eq 9, 3) := by decide +kernel
theorem dX2_takeBound_58 : decode cX2_takeBound 58 = .ok (.aload_n 0, 1) := by decide +kernel
theorem dX2_takeBound_59 : decode cX2_takeBound 59 = .ok (.iconst 3, 1) := by decide +kernel
theorem dX2_takeBound_60 : decode cX2_takeBound 60 = .ok (.iload_n 3, 1) := by decide +kernel
theorem dX2_takeBound_61 : decode cX2_takeBound 61 = .ok (.invokevirtual 96, 3) := by decide +kernel
theorem dX2_takeBound_64 : decode cX2_takeBound 64 = .ok (.iload 5, 2) := by decide +kernel
theorem dX2_takeBound_66 : decode cX2_takeBound 66 = .ok (.ireturn, 1) := by decide +kernel
theorem dX2_bind_0 : decode cX2_bind 0 = .ok (.iconst 4, 1) := by decide +kernel
theorem dX2_bind_1 : decode cX2_bind 1 = .ok (.iload_n 1, 1) := by decide +kernel
theorem dX2_bind_2 : decode cX2_bind 2 = .ok (.imul, 1) := by decide +kernel
theorem dX2_bind_3 : decode cX2_bind 3 = .ok (.istore 4, 2) := by decide +kernel
theorem dX2_bind_5 : decode cX2_bind 5 = .ok (.iload_n 0, 1) := by decide +kernel
theorem dX2_bind_6 : decode cX2_bind 6 = .ok (.invokestatic 153, 3) := by decide +kernel
theorem dX2_bind_9 : decode cX2_bind 9 = .ok (.iconst 1, 1) := by decide +kernel
theorem dX2_bind_10 : decode cX2_bind 10 = .ok (.iadd, 1) := by decide +kernel
theorem dX2_bind_11 : decode cX2_bind 11 = .ok (.iconst 4, 1) := by decide +kernel
theorem dX2_bind_12 : decode cX2_bind 12 = .ok (.invokestatic 166, 3) := by decide +kernel
theorem dX2_bind_15 : decode cX2_bind 15 = .ok (.istore 5, 2) := by decide +kernel
theorem dX2_bind_17 : decode cX2_bind 17 = .ok (.iload_n 0, 1) := by decide +kernel
theorem dX2_bind_18 : decode cX2_bind 18 = .ok (.ldc 213, 2) := by decide +kernel
theorem dX2_bind_20 : decode cX2_bind 20 = .ok (.iand, 1) := by decide +kernel
theorem dX2_bind_21 : decode cX2_bind 21 = .ok (.bipush 15, 2) := by decide +kernel
theorem dX2_bind_23 : decode cX2_bind 23 = .ok (.iload 4, 2) := by decide +kernel
theorem dX2_bind_25 : decode cX2_bind 25 = .ok (.ishl, 1) := by decide +kernel
theorem dX2_bind_26 : decode cX2_bind 26 = .ok (.iconst (-1), 1) := by decide +kernel
theorem dX2_bind_27 : decode cX2_bind 27 = .ok (.ixor, 1) := by decide +kernel
theorem dX2_bind_28 : decode cX2_bind 28 = .ok (.iand, 1) := by decide +kernel
theorem dX2_bind_29 : decode cX2_bind 29 = .ok (.istore 6, 2) := by decide +kernel
theorem dX2_bind_31 : decode cX2_bind 31 = .ok (.iload 6, 2) := by decide +kernel
theorem dX2_bind_33 : decode cX2_bind 33 = .ok (.iconst 1, 1) := by decide +kernel
theorem dX2_bind_34 : decode cX2_bind 34 = .ok (.iload_n 2, 1) := by decide +kernel
theorem dX2_bind_35 : decode cX2_bind 35 = .ok (.iadd, 1) := by decide +kernel
theorem dX2_bind_36 : decode cX2_bind 36 = .ok (.iconst 4, 1) := by decide +kernel
theorem dX2_bind_37 : decode cX2_bind 37 = .ok (.iload_n 3, 1) := by decide +kernel
theorem dX2_bind_38 : decode cX2_bind 38 = .ok (.imul, 1) := by decide +kernel
theorem dX2_bind_39 : decode cX2_bind 39 = .ok (.iadd, 1) := by decide +kernel
theorem dX2_bind_40 : decode cX2_bind 40 = .ok (.iload 4, 2) := by decide +kernel
theorem dX2_bind_42 : decode cX2_bind 42 = .ok (.ishl, 1) := by decide +kernel
theorem dX2_bind_43 : decode cX2_bind 43 = .ok (.ior, 1) := by decide +kernel
theorem dX2_bind_44 : decode cX2_bind 44 = .ok (.iload 5, 2) := by decide +kernel
theorem dX2_bind_46 : decode cX2_bind 46 = .ok (.bipush 16, 2) := by decide +kernel
theorem dX2_bind_48 : decode cX2_bind 48 = .ok (.ishl, 1) := by decide +kernel
theorem dX2_bind_49 : decode cX2_bind 49 = .ok (.ior, 1) := by decide +kernel
theorem dX2_bind_50 : decode cX2_bind 50 = .ok (.ireturn, 1) := by decide +kernel
theorem dX2_depth_0 : decode cX2_depth 0 = .ok (.iload_n 0, 1) := by decide +kernel
theorem dX2_depth_1 : decode cX2_depth 1 = .ok (.bipush 16, 2) := by decide +kernel
theorem dX2_depth_3 : decode cX2_depth 3 = .ok (.ishr, 1) := by decide +kernel
theorem dX2_depth_4 : decode cX2_depth 4 = .ok (.ireturn, 1) := by decide +kernel
theorem dX2_kindOf_0 : decode cX2_kindOf 0 = .ok (.iload_n 0, 1) := by decide +kernel
theorem dX2_kindOf_1 : decode cX2_kindOf 1 = .ok (.ifCond .ne 7, 3) := by decide +kernel
theorem dX2_kindOf_4 : decode cX2_kindOf 4 = .ok (.iconst (-1), 1) := by decide +kernel
theorem dX2_kindOf_5 : decode cX2_kindOf 5 = .ok (.goto 8, 3) := by decide +kernel
theorem dX2_kindOf_8 : decode cX2_kindOf 8 = .ok (.iload_n 0, 1) := by decide +kernel
theorem dX2_kindOf_9 : decode cX2_kindOf 9 = .ok (.iconst 1, 1) := by decide +kernel
theorem dX2_kindOf_10 : decode cX2_kindOf 10 = .ok (.isub, 1) := by decide +kernel
theorem dX2_kindOf_11 : decode cX2_kindOf 11 = .ok (.iconst 3, 1) := by decide +kernel
theorem dX2_kindOf_12 : decode cX2_kindOf 12 = .ok (.iand, 1) := by decide +kernel
theorem dX2_kindOf_13 : decode cX2_kindOf 13 = .ok (.ireturn, 1) := by decide +kernel
theorem dX2_slotOf_0 : decode cX2_slotOf 0 = .ok (.iload_n 0, 1) := by decide +kernel
theorem dX2_slotOf_1 : decode cX2_slotOf 1 = .ok (.ifCond .ne 7, 3) := by decide +kernel
theorem dX2_slotOf_4 : decode cX2_slotOf 4 = .ok (.iconst 0, 1) := by decide +kernel
theorem dX2_slotOf_5 : decode cX2_slotOf 5 = .ok (.goto 8, 3) := by decide +kernel
theorem dX2_slotOf_8 : decode cX2_slotOf 8 = .ok (.iload_n 0, 1) := by decide +kernel
theorem dX2_slotOf_9 : decode cX2_slotOf 9 = .ok (.iconst 1, 1) := by decide +kernel
theorem dX2_slotOf_10 : decode cX2_slotOf 10 = .ok (.isub, 1) := by decide +kernel
theorem dX2_slotOf_11 : decode cX2_slotOf 11 = .ok (.iconst 2, 1) := by decide +kernel
theorem dX2_slotOf_12 : decode cX2_slotOf 12 = .ok (.ishr, 1) := by decide +kernel
theorem dX2_slotOf_13 : decode cX2_slotOf 13 = .ok (.ireturn, 1) := by decide +kernel
theorem dX2_expectPart_0 : decode cX2_expectPart 0 = .ok (.aload_n 0, 1) := by decide +kernel
theorem dX2_expectPart_1 : decode cX2_expectPart 1 = .ok (.getfield 43, 3) := by decide +kernel
theorem dX2_expectPart_4 : decode cX2_expectPart 4 = .ok (.aload_n 0, 1) := by decide +kernel
theorem dX2_expectPart_5 : decode cX2_expectPart 5 = .ok (.getfield 40, 3) := by decide +kernel
theorem dX2_expectPart_8 : decode cX2_expectPart 8 = .ok (.arraylength, 1) := by decide +kernel
theorem dX2_expectPart_9 : decode cX2_expectPart 9 = .ok (.if_icmp .ge 23, 3) := by decide +kernel
theorem dX2_expectPart_12 : decode cX2_expectPart 12 = .ok (.aload_n 0, 1) := by decide +kernel
theorem dX2_expectPart_13 : decode cX2_expectPart 13 = .ok (.getfield 40, 3) := by decide +kernel
theorem dX2_expectPart_16 : decode cX2_expectPart 16 = .ok (.aload_n 0, 1) := by decide +kernel
theorem dX2_expectPart_17 : decode cX2_expectPart 17 = .ok (.getfield 43, 3) := by decide +kernel
theorem dX2_expectPart_20 : decode cX2_expectPart 20 = .ok (.iload_n 1, 1) := by decide +kernel
theorem dX2_expectPart_21 : decode cX2_expectPart 21 = .ok (.iastore, 1) := by decide +kernel
theorem dX2_expectPart_22 : decode cX2_expectPart 22 = .ok (.aload_n 0, 1) := by decide +kernel
theorem dX2_expectPart_23 : decode cX2_expectPart 23 = .ok (.dup, 1) := by decide +kernel
theorem dX2_expectPart_24 : decode cX2_expectPart 24 = .ok (.getfield 43, 3) := by decide +kernel
theorem dX2_expectPart_27 : decode cX2_expectPart 27 = .ok (.iconst 1, 1) := by decide +kernel
theorem dX2_expectPart_28 : decode cX2_expectPart 28 = .ok (.iadd, 1) := by decide +kernel
theorem dX2_expectPart_29 : decode cX2_expectPart 29 = .ok (.putfield 43, 3) := by decide +kernel
theorem dX2_expectPart_32 : decode cX2_expectPart 32 = .ok (.return_, 1) := by decide +kernel
theorem dX2_refuse_0 : decode cX2_refuse 0 = .ok (.aload_n 0, 1) := by decide +kernel
theorem dX2_refuse_1 : decode cX2_refuse 1 = .ok (.getfield 27, 3) := by decide +kernel
theorem dX2_refuse_4 : decode cX2_refuse 4 = .ok (.ifCond .ne 27, 3) := by decide +kernel
theorem dX2_refuse_7 : decode cX2_refuse 7 = .ok (.aload_n 0, 1) := by decide +kernel
theorem dX2_refuse_8 : decode cX2_refuse 8 = .ok (.iconst 1, 1) := by decide +kernel
theorem dX2_refuse_9 : decode cX2_refuse 9 = .ok (.putfield 27, 3) := by decide +kernel
theorem dX2_refuse_12 : decode cX2_refuse 12 = .ok (.aload_n 0, 1) := by decide +kernel
theorem dX2_refuse_13 : decode cX2_refuse 13 = .ok (.getfield 9, 3) := by decide +kernel
theorem dX2_refuse_16 : decode cX2_refuse 16 = .ok (.iconst 1, 1) := by decide +kernel
theorem dX2_refuse_17 : decode cX2_refuse 17 = .ok (.putfield 85, 3) := by decide +kernel
theorem dX2_refuse_20 : decode cX2_refuse 20 = .ok (.aload_n 0, 1) := by decide +kernel
theorem dX2_refuse_21 : decode cX2_refuse 21 = .ok (.getfield 9, 3) := by decide +kernel
theorem dX2_refuse_24 : decode cX2_refuse 24 = .ok (.aload_n 0, 1) := by decide +kernel
theorem dX2_refuse_25 : decode cX2_refuse 25 = .ok (.getfield 49, 3) := by decide +kernel
theorem dX2_refuse_28 : decode cX2_refuse 28 = .ok (.putfield 214, 3) := by decide +kernel
theorem dX2_refuse_31 : decode cX2_refuse 31 = .ok (.return_, 1) := by decide +kernel
theorem dX2_note_0 : decode cX2_note 0 = .ok (.aload_n 0, 1) := by decide +kernel
theorem dX2_note_1 : decode cX2_note 1 = .ok (.getfield 9, 3) := by decide +kernel
theorem dX2_note_4 : decode cX2_note 4 = .ok (.getfield 85, 3) := by decide +kernel
theorem dX2_note_7 : decode cX2_note 7 = .ok (.ifCond .ne 19, 3) := by decide +kernel
theorem dX2_note_10 : decode cX2_note 10 = .ok (.aload_n 0, 1) := by decide +kernel
theorem dX2_note_11 : decode cX2_note 11 = .ok (.getfield 9, 3) := by decide +kernel
theorem dX2_note_14 : decode cX2_note 14 = .ok (.iload_n 1, 1) := by decide +kernel
theorem dX2_note_15 : decode cX2_note 15 = .ok (.putfield 85, 3) := by decide +kernel
theorem dX2_note_18 : decode cX2_note 18 = .ok (.aload_n 0, 1) := by decide +kernel
theorem dX2_note_19 : decode cX2_note 19 = .ok (.getfield 9, 3) := by decide +kernel
theorem dX2_note_22 : decode cX2_note 22 = .ok (.iload_n 2, 1) := by decide +kernel
theorem dX2_note_23 : decode cX2_note 23 = .ok (.putfield 214, 3) := by decide +kernel
theorem dX2_note_26 : decode cX2_note 26 = .ok (.return_, 1) := by decide +kernel
theorem dX2_advance_0 : decode cX2_advance 0 = .ok (.aload_n 0, 1) := by decide +kernel
theorem dX2_advance_1 : decode cX2_advance 1 = .ok (.getfield 52, 3) := by decide +kernel
theorem dX2_advance_4 : decode cX2_advance 4 = .ok (.aload_n 0, 1) := by decide +kernel
theorem dX2_advance_5 : decode cX2_advance 5 = .ok (.getfield 19, 3) := by decide +kernel
theorem dX2_advance_8 : decode cX2_advance 8 = .ok (.if_icmp .ge 44, 3) := by decide +kernel
theorem dX2_advance_11 : decode cX2_advance 11 = .ok (.aload_n 0, 1) := by decide +kernel
theorem dX2_advance_12 : decode cX2_advance 12 = .ok (.getfield 15, 3) := by decide +kernel
theorem dX2_advance_15 : decode cX2_advance 15 = .ok (.aload_n 0, 1) := by decide +kernel
theorem dX2_advance_16 : decode cX2_advance 16 = .ok (.getfield 52, 3) := by decide +kernel
theorem dX2_advance_19 : decode cX2_advance 19 = .ok (.iaload, 1) := by decide +kernel
theorem dX2_advance_20 : decode cX2_advance 20 = .ok (.bipush 10, 2) := by decide +kernel
theorem dX2_advance_22 : decode cX2_advance 22 = .ok (.if_icmp .eq 17, 3) := by decide +kernel
theorem dX2_advance_25 : decode cX2_advance 25 = .ok (.aload_n 0, 1) := by decide +kernel
theorem dX2_advance_26 : decode cX2_advance 26 = .ok (.getfield 15, 3) := by decide +kernel
theorem dX2_advance_29 : decode cX2_advance 29 = .ok (.aload_n 0, 1) := by decide +kernel
theorem dX2_advance_30 : decode cX2_advance 30 = .ok (.getfield 52, 3) := by decide +kernel
theorem dX2_advance_33 : decode cX2_advance 33 = .ok (.iaload, 1) := by decide +kernel
theorem dX2_advance_34 : decode cX2_advance 34 = .ok (.bipush 32, 2) := by decide +kernel
theorem dX2_advance_36 : decode cX2_advance 36 = .ok (.if_icmp .ne 16, 3) := by decide +kernel
theorem dX2_advance_39 : decode cX2_advance 39 = .ok (.aload_n 0, 1) := by decide +kernel
theorem dX2_advance_40 : decode cX2_advance 40 = .ok (.dup, 1) := by decide +kernel
theorem dX2_advance_41 : decode cX2_advance 41 = .ok (.getfield 52, 3) := by decide +kernel
theorem dX2_advance_44 : decode cX2_advance 44 = .ok (.iconst 1, 1) := by decide +kernel
theorem dX2_advance_45 : decode cX2_advance 45 = .ok (.iadd, 1) := by decide +kernel
theorem dX2_advance_46 : decode cX2_advance 46 = .ok (.putfield 52, 3) := by decide +kernel
theorem dX2_advance_49 : decode cX2_advance 49 = .ok (.goto (-49), 3) := by decide +kernel
theorem dX2_advance_52 : decode cX2_advance 52 = .ok (.aload_n 0, 1) := by decide +kernel
theorem dX2_advance_53 : decode cX2_advance 53 = .ok (.aload_n 0, 1) := by decide +kernel
theorem dX2_advance_54 : decode cX2_advance 54 = .ok (.getfield 52, 3) := by decide +kernel
theorem dX2_advance_57 : decode cX2_advance 57 = .ok (.putfield 49, 3) := by decide +kernel
theorem dX2_advance_60 : decode cX2_advance 60 = .ok (.aload_n 0, 1) := by decide +kernel
theorem dX2_advance_61 : decode cX2_advance 61 = .ok (.iconst 0, 1) := by decide +kernel
theorem dX2_advance_62 : decode cX2_advance 62 = .ok (.putfield 55, 3) := by decide +kernel
theorem dX2_advance_65 : decode cX2_advance 65 = .ok (.aload_n 0, 1) := by decide +kernel
theorem dX2_advance_66 : decode cX2_advance 66 = .ok (.getfield 52, 3) := by decide +kernel
theorem dX2_advance_69 : decode cX2_advance 69 = .ok (.aload_n 0, 1) := by decide +kernel
theorem dX2_advance_70 : decode cX2_advance 70 = .ok (.getfield 19, 3) := by decide +kernel
theorem dX2_advance_73 : decode cX2_advance 73 = .ok (.if_icmp .lt 11, 3) := by decide +kernel
theorem dX2_advance_76 : decode cX2_advance 76 = .ok (.aload_n 0, 1) := by decide +kernel
theorem dX2_advance_77 : decode cX2_advance 77 = .ok (.iconst 0, 1) := by decide +kernel
theorem dX2_advance_78 : decode cX2_advance 78 = .ok (.putfield 46, 3) := by decide +kernel
theorem dX2_advance_81 : decode cX2_advance 81 = .ok (.goto 136, 3) := by decide +kernel
theorem dX2_advance_84 : decode cX2_advance 84 = .ok (.aload_n 0, 1) := by decide +kernel
theorem dX2_advance_85 : decode cX2_advance 85 = .ok (.aload_n 0, 1) := by decide +kernel
theorem dX2_advance_86 : decode cX2_advance 86 = .ok (.getfield 52, 3) := by decide +kernel
theorem dX2_advance_89 : decode cX2_advance 89 = .ok (.invokevirtual 217, 3) := by decide +kernel
theorem dX2_advance_92 : decode cX2_advance 92 = .ok (.ifCond .eq 43, 3) := by decide +kernel
theorem dX2_advance_95 : decode cX2_advance 95 = .ok (.aload_n 0, 1) := by decide +kernel
theorem dX2_advance_96 : decode cX2_advance 96 = .ok (.iconst 1, 1) := by decide +kernel
theorem dX2_advance_97 : decode cX2_advance 97 = .ok (.putfield 46, 3) := by decide +kernel
theorem dX2_advance_100 : decode cX2_advance 100 = .ok (.aload_n 0, 1) := by decide +kernel
theorem dX2_advance_101 : decode cX2_advance 101 = .ok (.getfield 52, 3) := by decide +kernel
theorem dX2_advance_104 : decode cX2_advance 104 = .ok (.aload_n 0, 1) := by decide +kernel
theorem dX2_advance_105 : decode cX2_advance 105 = .ok (.getfield 19, 3) := by decide +kernel
theorem dX2_advance_108 : decode cX2_advance 108 = .ok (.if_icmp .ge 109, 3) := by decide +kernel
theorem dX2_advance_111 : decode cX2_advance 111 = .ok (.aload_n 0, 1) := by decide +kernel
theorem dX2_advance_112 : decode cX2_advance 112 = .ok (.aload_n 0, 1) := by decide +kernel
theorem dX2_advance_113 : decode cX2_advance 113 = .ok (.getfield 52, 3) := by decide +kernel
theorem dX2_advance_116 : decode cX2_advance 116 = .ok (.invokevirtual 217, 3) := by decide +kernel
theorem dX2_advance_119 : decode cX2_advance 119 = .ok (.ifCond .eq 98, 3) := by decide +kernel
theorem dX2_advance_122 : decode cX2_advance 122 = .ok (.aload_n 0, 1) := by decide +kernel
theorem dX2_advance_123 : decode cX2_advance 123 = .ok (.dup, 1) := by decide +kernel
theorem dX2_advance_124 : decode cX2_advance 124 = .ok (.getfield 52, 3) := by decide +kernel
theorem dX2_advance_127 : decode cX2_advance 127 = .ok (.iconst 1, 1) := by decide +kernel
theorem dX2_advance_128 : decode cX2_advance 128 = .ok (.iadd, 1) := by decide +kernel
theorem dX2_advance_129 : decode cX2_advance 129 = .ok (.putfield 52, 3) := by decide +kernel
theorem dX2_advance_132 : decode cX2_advance 132 = .ok (.goto (-32), 3) := by decide +kernel
theorem dX2_advance_135 : decode cX2_advance 135 = .ok (.aload_n 0, 1) := by decide +kernel
theorem dX2_advance_136 : decode cX2_advance 136 = .ok (.aload_n 0, 1) := by decide +kernel
theorem dX2_advance_137 : decode cX2_advance 137 = .ok (.getfield 52, 3) := by decide +kernel
theorem dX2_advance_140 : decode cX2_advance 140 = .ok (.invokevirtual 220, 3) := by decide +kernel
theorem dX2_advance_143 : decode cX2_advance 143 = .ok (.ifCond .eq 69, 3) := by decide +kernel
theorem dX2_advance_146 : decode cX2_advance 146 = .ok (.aload_n 0, 1) := by decide +kernel
theorem dX2_advance_147 : decode cX2_advance 147 = .ok (.iconst 2, 1) := by decide +kernel
theorem dX2_advance_148 : decode cX2_advance 148 = .ok (.putfield 46, 3) := by decide +kernel
theorem dX2_advance_151 : decode cX2_advance 151 = .ok (.aload_n 0, 1) := by decide +kernel
theorem dX2_advance_152 : decode cX2_advance 152 = .ok (.getfield 52, 3) := by decide +kernel
theorem dX2_advance_155 : decode cX2_advance 155 = .ok (.aload_n 0, 1) := by decide +kernel
theorem dX2_advance_156 : decode cX2_advance 156 = .ok (.getfield 49, 3) := by decide +kernel
theorem dX2_advance_159 : decode cX2_advance 159 = .ok (.isub, 1) := by decide +kernel
theorem dX2_advance_160 : decode cX2_advance 160 = .ok (.iconst 4, 1) := by decide +kernel
theorem dX2_advance_161 : decode cX2_advance 161 = .ok (.if_icmp .ge 56, 3) := by decide +kernel
theorem dX2_advance_164 : decode cX2_advance 164 = .ok (.aload_n 0, 1) := by decide +kernel
theorem dX2_advance_165 : decode cX2_advance 165 = .ok (.aload_n 0, 1) := by decide +kernel
theorem dX2_advance_166 : decode cX2_advance 166 = .ok (.getfield 52, 3) := by decide +kernel
theorem dX2_advance_169 : decode cX2_advance 169 = .ok (.invokevirtual 220, 3) := by decide +kernel
theorem dX2_advance_172 : decode cX2_advance 172 = .ok (.ifCond .eq 45, 3) := by decide +kernel
theorem dX2_advance_175 : decode cX2_advance 175 = .ok (.aload_n 0, 1) := by decide +kernel
theorem dX2_advance_176 : decode cX2_advance 176 = .ok (.bipush 10, 2) := by decide +kernel
theorem dX2_advance_178 : decode cX2_advance 178 = .ok (.aload_n 0, 1) := by decide +kernel
theorem dX2_advance_179 : decode cX2_advance 179 = .ok (.getfield 55, 3) := by decide +kernel
theorem dX2_advance_182 : decode cX2_advance 182 = .ok (.imul, 1) := by decide +kernel
theorem dX2_advance_183 : decode cX2_advance 183 = .ok (.aload_n 0, 1) := by decide +kernel
theorem dX2_advance_184 : decode cX2_advance 184 = .ok (.getfield 15, 3) := by decide +kernel
theorem dX2_advance_187 : decode cX2_advance 187 = .ok (.aload_n 0, 1) := by decide +kernel
theorem dX2_advance_188 : decode cX2_advance 188 = .ok (.getfield 52, 3) := by decide +kernel
theorem dX2_advance_191 : decode cX2_advance 191 = .ok (.iaload, 1) := by decide +kernel
theorem dX2_advance_192 : decode cX2_advance 192 = .ok (.iadd, 1) := by decide +kernel
theorem dX2_advance_193 : decode cX2_advance 193 = .ok (.bipush 48, 2) := by decide +kernel
theorem dX2_advance_195 : decode cX2_advance 195 = .ok (.isub, 1) := by decide +kernel
theorem dX2_advance_196 : decode cX2_advance 196 = .ok (.putfield 55, 3) := by decide +kernel
theorem dX2_advance_199 : decode cX2_advance 199 = .ok (.aload_n 0, 1) := by decide +kernel
theorem dX2_advance_200 : decode cX2_advance 200 = .ok (.dup, 1) := by decide +kernel
theorem dX2_advance_201 : decode cX2_advance 201 = .ok (.getfield 52, 3) := by decide +kernel
theorem dX2_advance_204 : decode cX2_advance 204 = .ok (.iconst 1, 1) := by decide +kernel
theorem dX2_advance_205 : decode cX2_advance 205 = .ok (.iadd, 1) := by decide +kernel
theorem dX2_advance_206 : decode cX2_advance 206 = .ok (.putfield 52, 3) := by decide +kernel
theorem dX2_advance_209 : decode cX2_advance 209 = .ok (.goto (-58), 3) := by decide +kernel
theorem dX2_advance_212 : decode cX2_advance 212 = .ok (.aload_n 0, 1) := by decide +kernel
theorem dX2_advance_213 : decode cX2_advance 213 = .ok (.iconst 3, 1) := by decide +kernel
theorem dX2_advance_214 : decode cX2_advance 214 = .ok (.putfield 46, 3) := by decide +kernel
theorem dX2_advance_217 : decode cX2_advance 217 = .ok (.return_, 1) := by decide +kernel
theorem dX2_isLetter_0 : decode cX2_isLetter 0 = .ok (.iload_n 1, 1) := by decide +kernel
theorem dX2_isLetter_1 : decode cX2_isLetter 1 = .ok (.aload_n 0, 1) := by decide +kernel
theorem dX2_isLetter_2 : decode cX2_isLetter 2 = .ok (.getfield 19, 3) := by decide +kernel
theorem dX2_isLetter_5 : decode cX2_isLetter 5 = .ok (.if_icmp .ge 29, 3) := by decide +kernel
theorem dX2_isLetter_8 : decode cX2_isLetter 8 = .ok (.aload_n 0, 1) := by decide +kernel
theorem dX2_isLetter_9 : decode cX2_isLetter 9 = .ok (.getfield 15, 3) := by decide +kernel
theorem dX2_isLetter_12 : decode cX2_isLetter 12 = .ok (.iload_n 1, 1) := by decide +kernel
theorem dX2_isLetter_13 : decode cX2_isLetter 13 = .ok (.iaload, 1) := by decide +kernel
theorem dX2_isLetter_14 : decode cX2_isLetter 14 = .ok (.bipush 97, 2) := by decide +kernel
theorem dX2_isLetter_16 : decode cX2_isLetter 16 = .ok (.if_icmp .lt 18, 3) := by decide +kernel
theorem dX2_isLetter_19 : decode cX2_isLetter 19 = .ok (.aload_n 0, 1) := by decide +kernel
theorem dX2_isLetter_20 : decode cX2_isLetter 20 = .ok (.getfield 15, 3) := by decide +kernel
theorem dX2_isLetter_23 : decode cX2_isLetter 23 = .ok (.iload_n 1, 1) := by decide +kernel
theorem dX2_isLetter_24 : decode cX2_isLetter 24 = .ok (.iaload, 1) := by decide +kernel
theorem dX2_isLetter_25 : decode cX2_isLetter 25 = .ok (.bipush 122, 2) := by decide +kernel
theorem dX2_isLetter_27 : decode cX2_isLetter 27 = .ok (.if_icmp .gt 7, 3) := by decide +kernel
theorem dX2_isLetter_30 : decode cX2_isLetter 30 = .ok (.iconst 1, 1) := by decide +kernel
theorem dX2_isLetter_31 : decode cX2_isLetter 31 = .ok (.goto 4, 3) := by decide +kernel
theorem dX2_isLetter_34 : decode cX2_isLetter 34 = .ok (.iconst 0, 1) := by decide +kernel
theorem dX2_isLetter_35 : decode cX2_isLetter 35 = .ok (.ireturn, 1) := by decide +kernel
theorem dX2_isDigit_0 : decode cX2_isDigit 0 = .ok (.iload_n 1, 1) := by decide +kernel
theorem dX2_isDigit_1 : decode cX2_isDigit 1 = .ok (.aload_n 0, 1) := by decide +kernel
theorem dX2_isDigit_2 : decode cX2_isDigit 2 = .ok (.getfield 19, 3) := by decide +kernel
theorem dX2_isDigit_5 : decode cX2_isDigit 5 = .ok (.if_icmp .ge 29, 3) := by decide +kernel
theorem dX2_isDigit_8 : decode cX2_isDigit 8 = .ok (.aload_n 0, 1) := by decide +kernel
theorem dX2_isDigit_9 : decode cX2_isDigit 9 = .ok (.getfield 15, 3) := by decide +kernel
theorem dX2_isDigit_12 : decode cX2_isDigit 12 = .ok (.iload_n 1, 1) := by decide +kernel
theorem dX2_isDigit_13 : decode cX2_isDigit 13 = .ok (.iaload, 1) := by decide +kernel
theorem dX2_isDigit_14 : decode cX2_isDigit 14 = .ok (.bipush 48, 2) := by decide +kernel
theorem dX2_isDigit_16 : decode cX2_isDigit 16 = .ok (.if_icmp .lt 18, 3) := by decide +kernel
theorem dX2_isDigit_19 : decode cX2_isDigit 19 = .ok (.aload_n 0, 1) := by decide +kernel
theorem dX2_isDigit_20 : decode cX2_isDigit 20 = .ok (.getfield 15, 3) := by decide +kernel
theorem dX2_isDigit_23 : decode cX2_isDigit 23 = .ok (.iload_n 1, 1) := by decide +kernel
theorem dX2_isDigit_24 : decode cX2_isDigit 24 = .ok (.iaload, 1) := by decide +kernel
theorem dX2_isDigit_25 : decode cX2_isDigit 25 = .ok (.bipush 57, 2) := by decide +kernel
theorem dX2_isDigit_27 : decode cX2_isDigit 27 = .ok (.if_icmp .gt 7, 3) := by decide +kernel
theorem dX2_isDigit_30 : decode cX2_isDigit 30 = .ok (.iconst 1, 1) := by decide +kernel
theorem dX2_isDigit_31 : decode cX2_isDigit 31 = .ok (.goto 4, 3) := by decide +kernel
theorem dX2_isDigit_34 : decode cX2_isDigit 34 = .ok (.iconst 0, 1) := by decide +kernel
theorem dX2_isDigit_35 : decode cX2_isDigit 35 = .ok (.ireturn, 1) := by decide +kernel
theorem dX2_isWord_0 : decode cX2_isWord 0 = .ok (.aload_n 0, 1) := by decide +kernel
theorem dX2_isWord_1 : decode cX2_isWord 1 = .ok (.getfield 46, 3) := by decide +kernel
theorem dX2_isWord_4 : decode cX2_isWord 4 = .ok (.iconst 1, 1) := by decide +kernel
theorem dX2_isWord_5 : decode cX2_isWord 5 = .ok (.if_icmp .ne 19, 3) := by decide +kernel
theorem dX2_isWord_8 : decode cX2_isWord 8 = .ok (.aload_n 0, 1) := by decide +kernel
theorem dX2_isWord_9 : decode cX2_isWord 9 = .ok (.getfield 52, 3) := by decide +kernel
theorem dX2_isWord_12 : decode cX2_isWord 12 = .ok (.aload_n 0, 1) := by decide +kernel
theorem dX2_isWord_13 : decode cX2_isWord 13 = .ok (.getfield 49, 3) := by decide +kernel
theorem dX2_isWord_16 : decode cX2_isWord 16 = .ok (.isub, 1) := by decide +kernel
theorem dX2_isWord_17 : decode cX2_isWord 17 = .ok (.aload_n 1, 1) := by decide +kernel
theorem dX2_isWord_18 : decode cX2_isWord 18 = .ok (.invokevirtual 223, 3) := by decide +kernel
theorem dX2_isWord_21 : decode cX2_isWord 21 = .ok (.if_icmp .eq 5, 3) := by decide +kernel
theorem dX2_isWord_24 : decode cX2_isWord 24 = .ok (.iconst 0, 1) := by decide +kernel
theorem dX2_isWord_25 : decode cX2_isWord 25 = .ok (.ireturn, 1) := by decide +kernel
theorem dX2_isWord_26 : decode cX2_isWord 26 = .ok (.iconst 0, 1) := by decide +kernel
theorem dX2_isWord_27 : decode cX2_isWord 27 = .ok (.istore_n 2, 1) := by decide +kernel
theorem dX2_isWord_28 : decode cX2_isWord 28 = .ok (.iload_n 2, 1) := by decide +kernel
theorem dX2_isWord_29 : decode cX2_isWord 29 = .ok (.aload_n 1, 1) := by decide +kernel
theorem dX2_isWord_30 : decode cX2_isWord 30 = .ok (.invokevirtual 223, 3) := by decide +kernel
theorem dX2_isWord_33 : decode cX2_isWord 33 = .ok (.if_icmp .ge 30, 3) := by decide +kernel
theorem dX2_isWord_36 : decode cX2_isWord 36 = .ok (.aload_n 0, 1) := by decide +kernel
theorem dX2_isWord_37 : decode cX2_isWord 37 = .ok (.getfield 15, 3) := by decide +kernel
theorem dX2_isWord_40 : decode cX2_isWord 40 = .ok (.aload_n 0, 1) := by decide +kernel
theorem dX2_isWord_41 : decode cX2_isWord 41 = .ok (.getfield 49, 3) := by decide +kernel
theorem dX2_isWord_44 : decode cX2_isWord 44 = .ok (.iload_n 2, 1) := by decide +kernel
theorem dX2_isWord_45 : decode cX2_isWord 45 = .ok (.iadd, 1) := by decide +kernel
theorem dX2_isWord_46 : decode cX2_isWord 46 = .ok (.iaload, 1) := by decide +kernel
theorem dX2_isWord_47 : decode cX2_isWord 47 = .ok (.aload_n 1, 1) := by decide +kernel
theorem dX2_isWord_48 : decode cX2_isWord 48 = .ok (.iload_n 2, 1) := by decide +kernel
theorem dX2_isWord_49 : decode cX2_isWord 49 = .ok (.invokevirtual 227, 3) := by decide +kernel
theorem dX2_isWord_52 : decode cX2_isWord 52 = .ok (.if_icmp .eq 5, 3) := by decide +kernel
theorem dX2_isWord_55 : decode cX2_isWord 55 = .ok (.iconst 0, 1) := by decide +kernel
theorem dX2_isWord_56 : decode cX2_isWord 56 = .ok (.ireturn, 1) := by decide +kernel
theorem dX2_isWord_57 : decode cX2_isWord 57 = .ok (.iinc 2 1, 3) := by decide +kernel
theorem dX2_isWord_60 : decode cX2_isWord 60 = .ok (.goto (-32), 3) := by decide +kernel
theorem dX2_isWord_63 : decode cX2_isWord 63 = .ok (.iconst 1, 1) := by decide +kernel
theorem dX2_isWord_64 : decode cX2_isWord 64 = .ok (.ireturn, 1) := by decide +kernel
theorem dX2_oneLetter_0 : decode cX2_oneLetter 0 = .ok (.aload_n 0, 1) := by decide +kernel
theorem dX2_oneLetter_1 : decode cX2_oneLetter 1 = .ok (.getfield 46, 3) := by decide +kernel
theorem dX2_oneLetter_4 : decode cX2_oneLetter 4 = .ok (.iconst 1, 1) := by decide +kernel
theorem dX2_oneLetter_5 : decode cX2_oneLetter 5 = .ok (.if_icmp .ne 28, 3) := by decide +kernel
theorem dX2_oneLetter_8 : decode cX2_oneLetter 8 = .ok (.aload_n 0, 1) := by decide +kernel
theorem dX2_oneLetter_9 : decode cX2_oneLetter 9 = .ok (.getfield 52, 3) := by decide +kernel
theorem dX2_oneLetter_12 : decode cX2_oneLetter 12 = .ok (.aload_n 0, 1) := by decide +kernel
theorem dX2_oneLetter_13 : decode cX2_oneLetter 13 = .ok (.getfield 49, 3) := by decide +kernel
theorem dX2_oneLetter_16 : decode cX2_oneLetter 16 = .ok (.isub, 1) := by decide +kernel
theorem dX2_oneLetter_17 : decode cX2_oneLetter 17 = .ok (.iconst 1, 1) := by decide +kernel
theorem dX2_oneLetter_18 : decode cX2_oneLetter 18 = .ok (.if_icmp .ne 15, 3) := by decide +kernel
theorem dX2_oneLetter_21 : decode cX2_oneLetter 21 = .ok (.aload_n 0, 1) := by decide +kernel
theorem dX2_oneLetter_22 : decode cX2_oneLetter 22 = .ok (.getfield 15, 3) := by decide +kernel
theorem dX2_oneLetter_25 : decode cX2_oneLetter 25 = .ok (.aload_n 0, 1) := by decide +kernel
theorem dX2_oneLetter_26 : decode cX2_oneLetter 26 = .ok (.getfield 49, 3) := by decide +kernel
theorem dX2_oneLetter_29 : decode cX2_oneLetter 29 = .ok (.iaload, 1) := by decide +kernel
theorem dX2_oneLetter_30 : decode cX2_oneLetter 30 = .ok (.goto 4, 3) := by decide +kernel
theorem dX2_oneLetter_33 : decode cX2_oneLetter 33 = .ok (.iconst 0, 1) := by decide +kernel
theorem dX2_oneLetter_34 : decode cX2_oneLetter 34 = .ok (.ireturn, 1) := by decide +kernel
theorem dX3_init_0 : decode cX3_init 0 = .ok (.aload_n 0, 1) := by decide +kernel
theorem dX3_init_1 : decode cX3_init 1 = .ok (.invokespecial 3, 3) := by decide +kernel
theorem dX3_init_4 : decode cX3_init 4 = .ok (.aload_n 0, 1) := by decide +kernel
theorem dX3_init_5 : decode cX3_init 5 = .ok (.iconst 3, 1) := by decide +kernel
theorem dX3_init_6 : decode cX3_init 6 = .ok (.newarray .int, 2) := by decide +kernel
theorem dX3_init_8 : decode cX3_init 8 = .ok (.dup, 1) := by decide +kernel
theorem dX3_init_9 : decode cX3_init 9 = .ok (.iconst 0, 1) := by decide +kernel
theorem dX3_init_10 : decode cX3_init 10 = .ok (.iconst 2, 1) := by decide +kernel
theorem dX3_init_11 : decode cX3_init 11 = .ok (.iastore, 1) := by decide +kernel
theorem dX3_init_12 : decode cX3_init 12 = .ok (.dup, 1) := by decide +kernel
theorem dX3_init_13 : decode cX3_init 13 = .ok (.iconst 1, 1) := by decide +kernel
theorem dX3_init_14 : decode cX3_init 14 = .ok (.iconst 2, 1) := by decide +kernel
theorem dX3_init_15 : decode cX3_init 15 = .ok (.iastore, 1) := by decide +kernel
theorem dX3_init_16 : decode cX3_init 16 = .ok (.dup, 1) := by decide +kernel
theorem dX3_init_17 : decode cX3_init 17 = .ok (.iconst 2, 1) := by decide +kernel
theorem dX3_init_18 : decode cX3_init 18 = .ok (.iconst 2, 1) := by decide +kernel
theorem dX3_init_19 : decode cX3_init 19 = .ok (.iastore, 1) := by decide +kernel
theorem dX3_init_20 : decode cX3_init 20 = .ok (.putfield 9, 3) := by decide +kernel
theorem dX3_init_23 : decode cX3_init 23 = .ok (.aload_n 0, 1) := by decide +kernel
theorem dX3_init_24 : decode cX3_init 24 = .ok (.iconst 4, 1) := by decide +kernel
theorem dX3_init_25 : decode cX3_init 25 = .ok (.newarray .int, 2) := by decide +kernel
theorem dX3_init_27 : decode cX3_init 27 = .ok (.putfield 15, 3) := by decide +kernel
theorem dX3_init_30 : decode cX3_init 30 = .ok (.aload_n 0, 1) := by decide +kernel
theorem dX3_init_31 : decode cX3_init 31 = .ok (.iconst 4, 1) := by decide +kernel
theorem dX3_init_32 : decode cX3_init 32 = .ok (.newarray .int, 2) := by decide +kernel
theorem dX3_init_34 : decode cX3_init 34 = .ok (.putfield 18, 3) := by decide +kernel
theorem dX3_init_37 : decode cX3_init 37 = .ok (.aload_n 0, 1) := by decide +kernel
theorem dX3_init_38 : decode cX3_init 38 = .ok (.iconst 4, 1) := by decide +kernel
theorem dX3_init_39 : decode cX3_init 39 = .ok (.newarray .int, 2) := by decide +kernel
theorem dX3_init_41 : decode cX3_init 41 = .ok (.putfield 21, 3) := by decide +kernel
theorem dX3_init_44 : decode cX3_init 44 = .ok (.aload_n 0, 1) := by decide +kernel
theorem dX3_init_45 : decode cX3_init 45 = .ok (.iconst 4, 1) := by decide +kernel
theorem dX3_init_46 : decode cX3_init 46 = .ok (.newarray .int, 2) := by decide +kernel
theorem dX3_init_48 : decode cX3_init 48 = .ok (.putfield 24, 3) := by decide +kernel
theorem dX3_init_51 : decode cX3_init 51 = .ok (.aload_n 0, 1) := by decide +kernel
theorem dX3_init_52 : decode cX3_init 52 = .ok (.iconst 4, 1) := by decide +kernel
theorem dX3_init_53 : decode cX3_init 53 = .ok (.newarray .int, 2) := by decide +kernel
theorem dX3_init_55 : decode cX3_init 55 = .ok (.putfield 27, 3) := by decide +kernel
theorem dX3_init_58 : decode cX3_init 58 = .ok (.aload_n 0, 1) := by decide +kernel
theorem dX3_init_59 : decode cX3_init 59 = .ok (.iconst 0, 1) := by decide +kernel
theorem dX3_init_60 : decode cX3_init 60 = .ok (.putfield 30, 3) := by decide +kernel
theorem dX3_init_63 : decode cX3_init 63 = .ok (.aload_n 0, 1) := by decide +kernel
theorem dX3_init_64 : decode cX3_init 64 = .ok (.iconst 0, 1) := by decide +kernel
theorem dX3_init_65 : decode cX3_init 65 = .ok (.putfield 34, 3) := by decide +kernel
theorem dX3_init_68 : decode cX3_init 68 = .ok (.return_, 1) := by decide +kernel
theorem dX3_isKind_0 : decode cX3_isKind 0 = .ok (.iload_n 0, 1) := by decide +kernel
theorem dX3_isKind_1 : decode cX3_isKind 1 = .ok (.ifCond .lt 12, 3) := by decide +kernel
theorem dX3_isKind_4 : decode cX3_isKind 4 = .ok (.iload_n 0, 1) := by decide +kernel
theorem dX3_isKind_5 : decode cX3_isKind 5 = .ok (.iconst 3, 1) := by decide +kernel
theorem dX3_isKind_6 : decode cX3_isKind 6 = .ok (.if_icmp .ge 7, 3) := by decide +kernel
theorem dX3_isKind_9 : decode cX3_isKind 9 = .ok (.iconst 1, 1) := by decide +kernel
theorem dX3_isKind_10 : decode cX3_isKind 10 = .ok (.goto 4, 3) := by decide +kernel
theorem dX3_isKind_13 : decode cX3_isKind 13 = .ok (.iconst 0, 1) := by decide +kernel
theorem dX3_isKind_14 : decode cX3_isKind 14 = .ok (.ireturn, 1) := by decide +kernel
theorem dX3_copy_0 : decode cX3_copy 0 = .ok (.aload_n 1, 1) := by decide +kernel
theorem dX3_copy_1 : decode cX3_copy 1 = .ok (.getfield 9, 3) := by decide +kernel
theorem dX3_copy_4 : decode cX3_copy 4 = .ok (.iconst 0, 1) := by decide +kernel
theorem dX3_copy_5 : decode cX3_copy 5 = .ok (.aload_n 0, 1) := by decide +kernel
theorem dX3_copy_6 : decode cX3_copy 6 = .ok (.getfield 9, 3) := by decide +kernel
theorem dX3_copy_9 : decode cX3_copy 9 = .ok (.iconst 0, 1) := by decide +kernel
theorem dX3_copy_10 : decode cX3_copy 10 = .ok (.iconst 3, 1) := by decide +kernel
theorem dX3_copy_11 : decode cX3_copy 11 = .ok (.invokestatic 37, 3) := by decide +kernel
theorem dX3_copy_14 : decode cX3_copy 14 = .ok (.aload_n 1, 1) := by decide +kernel
theorem dX3_copy_15 : decode cX3_copy 15 = .ok (.getfield 15, 3) := by decide +kernel
theorem dX3_copy_18 : decode cX3_copy 18 = .ok (.iconst 0, 1) := by decide +kernel
theorem dX3_copy_19 : decode cX3_copy 19 = .ok (.aload_n 0, 1) := by decide +kernel
theorem dX3_copy_20 : decode cX3_copy 20 = .ok (.getfield 15, 3) := by decide +kernel
theorem dX3_copy_23 : decode cX3_copy 23 = .ok (.iconst 0, 1) := by decide +kernel
theorem dX3_copy_24 : decode cX3_copy 24 = .ok (.iconst 4, 1) := by decide +kernel
theorem dX3_copy_25 : decode cX3_copy 25 = .ok (.invokestatic 37, 3) := by decide +kernel
theorem dX3_copy_28 : decode cX3_copy 28 = .ok (.aload_n 1, 1) := by decide +kernel
theorem dX3_copy_29 : decode cX3_copy 29 = .ok (.getfield 18, 3) := by decide +kernel
theorem dX3_copy_32 : decode cX3_copy 32 = .ok (.iconst 0, 1) := by decide +kernel
theorem dX3_copy_33 : decode cX3_copy 33 = .ok (.aload_n 0, 1) := by decide +kernel
theorem dX3_copy_34 : decode cX3_copy 34 = .ok (.getfield 18, 3) := by decide +kernel
theorem dX3_copy_37 : decode cX3_copy 37 = .ok (.iconst 0, 1) := by decide +kernel
theorem dX3_copy_38 : decode cX3_copy 38 = .ok (.iconst 4, 1) := by decide +kernel
theorem dX3_copy_39 : decode cX3_copy 39 = .ok (.invokestatic 37, 3) := by decide +kernel
theorem dX3_copy_42 : decode cX3_copy 42 = .ok (.aload_n 0, 1) := by decide +kernel
theorem dX3_copy_43 : decode cX3_copy 43 = .ok (.aload_n 1, 1) := by decide +kernel
theorem dX3_copy_44 : decode cX3_copy 44 = .ok (.getfield 30, 3) := by decide +kernel
theorem dX3_copy_47 : decode cX3_copy 47 = .ok (.putfield 30, 3) := by decide +kernel
theorem dX3_copy_50 : decode cX3_copy 50 = .ok (.aload_n 0, 1) := by decide +kernel
theorem dX3_copy_51 : decode cX3_copy 51 = .ok (.invokevirtual 43, 3) := by decide +kernel
theorem dX3_copy_54 : decode cX3_copy 54 = .ok (.return_, 1) := by decide +kernel
theorem dX3_resize_0 : decode cX3_resize 0 = .ok (.iload_n 1, 1) := by decide +kernel
theorem dX3_resize_1 : decode cX3_resize 1 = .ok (.invokestatic 46, 3) := by decide +kernel
theorem dX3_resize_4 : decode cX3_resize 4 = .ok (.ifCond .eq 23, 3) := by decide +kernel
theorem dX3_resize_7 : decode cX3_resize 7 = .ok (.iload_n 2, 1) := by decide +kernel
theorem dX3_resize_8 : decode cX3_resize 8 = .ok (.iconst 1, 1) := by decide +kernel
theorem dX3_resize_9 : decode cX3_resize 9 = .ok (.if_icmp .lt 18, 3) := by decide +kernel
theorem dX3_resize_12 : decode cX3_resize 12 = .ok (.iload_n 2, 1) := by decide +kernel
theorem dX3_resize_13 : decode cX3_resize 13 = .ok (.iconst 3, 1) := by decide +kernel
theorem dX3_resize_14 : decode cX3_resize 14 = .ok (.if_icmp .gt 13, 3) := by decide +kernel
theorem dX3_resize_17 : decode cX3_resize 17 = .ok (.aload_n 0, 1) := by decide +kernel
theorem dX3_resize_18 : decode cX3_resize 18 = .ok (.getfield 9, 3) := by decide +kernel
theorem dX3_resize_21 : decode cX3_resize 21 = .ok (.iload_n 1, 1) := by decide +kernel
theorem dX3_resize_22 : decode cX3_resize 22 = .ok (.iaload, 1) := by decide +kernel
theorem dX3_resize_23 : decode cX3_resize 23 = .ok (.iload_n 2, 1) := by decide +kernel
theorem dX3_resize_24 : decode cX3_resize 24 = .ok (.if_icmp .ne 5, 3) := by decide +kernel
theorem dX3_resize_27 : decode cX3_resize 27 = .ok (.iconst 0, 1) := by decide +kernel
theorem dX3_resize_28 : decode cX3_resize 28 = .ok (.ireturn, 1) := by decide +kernel
theorem dX3_resize_29 : decode cX3_resize 29 = .ok (.aload_n 0, 1) := by decide +kernel
theorem dX3_resize_30 : decode cX3_resize 30 = .ok (.getfield 9, 3) := by decide +kernel
theorem dX3_resize_33 : decode cX3_resize 33 = .ok (.iload_n 1, 1) := by decide +kernel
theorem dX3_resize_34 : decode cX3_resize 34 = .ok (.iload_n 2, 1) := by decide +kernel
theorem dX3_resize_35 : decode cX3_resize 35 = .ok (.iastore, 1) := by decide +kernel
theorem dX3_resize_36 : decode cX3_resize 36 = .ok (.aload_n 0, 1) := by decide +kernel
theorem dX3_resize_37 : decode cX3_resize 37 = .ok (.invokevirtual 43, 3) := by decide +kernel
theorem dX3_resize_40 : decode cX3_resize 40 = .ok (.iconst 1, 1) := by decide +kernel
theorem dX3_resize_41 : decode cX3_resize 41 = .ok (.ireturn, 1) := by decide +kernel
theorem dX3_addRelation_0 : decode cX3_addRelation 0 = .ok (.aload_n 0, 1) := by decide +kernel
theorem dX3_addRelation_1 : decode cX3_addRelation 1 = .ok (.getfield 30, 3) := by decide +kernel
theorem dX3_addRelation_4 : decode cX3_addRelation 4 = .ok (.iconst 4, 1) := by decide +kernel
theorem dX3_addRelation_5 : decode cX3_addRelation 5 = .ok (.if_icmp .ge 22, 3) := by decide +kernel
theorem dX3_addRelation_8 : decode cX3_addRelation 8 = .ok (.iload_n 1, 1) := by decide +kernel
theorem dX3_addRelation_9 : decode cX3_addRelation 9 = .ok (.invokestatic 46, 3) := by decide +kernel
theorem dX3_addRelation_12 : decode cX3_addRelation 12 = .ok (.ifCond .eq 15, 3) := by decide +kernel
theorem dX3_addRelation_15 : decode cX3_addRelation 15 = .ok (.iload_n 2, 1) := by decide +kernel
theorem dX3_addRelation_16 : decode cX3_addRelation 16 = .ok (.iconst (-1), 1) := by decide +kernel
theorem dX3_addRelation_17 : decode cX3_addRelation 17 = .ok (.if_icmp .eq 12, 3) := by decide +kernel
theorem dX3_addRelation_20 : decode cX3_addRelation 20 = .ok (.iload_n 2, 1) := by decide +kernel
theorem dX3_addRelation_21 : decode cX3_addRelation 21 = .ok (.invokestatic 46, 3) := by decide +kernel
theorem dX3_addRelation_24 : decode cX3_addRelation 24 = .ok (.ifCond .ne 5, 3) := by decide +kernel
theorem dX3_addRelation_27 : decode cX3_addRelation 27 = .ok (.iconst (-1), 1) := by decide +kernel
theorem dX3_addRelation_28 : decode cX3_addRelation 28 = .ok (.ireturn, 1) := by decide +kernel
theorem dX3_addRelation_29 : decode cX3_addRelation 29 = .ok (.aload_n 0, 1) := by decide +kernel
theorem dX3_addRelation_30 : decode cX3_addRelation 30 = .ok (.getfield 15, 3) := by decide +kernel
theorem dX3_addRelation_33 : decode cX3_addRelation 33 = .ok (.aload_n 0, 1) := by decide +kernel
theorem dX3_addRelation_34 : decode cX3_addRelation 34 = .ok (.getfield 30, 3) := by decide +kernel
theorem dX3_addRelation_37 : decode cX3_addRelation 37 = .ok (.iload_n 1, 1) := by decide +kernel
theorem dX3_addRelation_38 : decode cX3_addRelation 38 = .ok (.iastore, 1) := by decide +kernel
theorem dX3_addRelation_39 : decode cX3_addRelation 39 = .ok (.aload_n 0, 1) := by decide +kernel
theorem dX3_addRelation_40 : decode cX3_addRelation 40 = .ok (.getfield 18, 3) := by decide +kernel
theorem dX3_addRelation_43 : decode cX3_addRelation 43 = .ok (.aload_n 0, 1) := by decide +kernel
theorem dX3_addRelation_44 : decode cX3_addRelation 44 = .ok (.getfield 30, 3) := by decide +kernel
theorem dX3_addRelation_47 : decode cX3_addRelation 47 = .ok (.iload_n 2, 1) := by decide +kernel
theorem dX3_addRelation_48 : decode cX3_addRelation 48 = .ok (.iastore, 1) := by decide +kernel
theorem dX3_addRelation_49 : decode cX3_addRelation 49 = .ok (.aload_n 0, 1) := by decide +kernel
theorem dX3_addRelation_50 : decode cX3_addRelation 50 = .ok (.dup, 1) := by decide +kernel
theorem dX3_addRelation_51 : decode cX3_addRelation 51 = .ok (.getfield 30, 3) := by decide +kernel
theorem dX3_addRelation_54 : decode cX3_addRelation 54 = .ok (.iconst 1, 1) := by decide +kernel
theorem dX3_addRelation_55 : decode cX3_addRelation 55 = .ok (.iadd, 1) := by decide +kernel
theorem dX3_addRelation_56 : decode cX3_addRelation 56 = .ok (.putfield 30, 3) := by decide +kernel
theorem dX3_addRelation_59 : decode cX3_addRelation 59 = .ok (.aload_n 0, 1) := by decide +kernel
theorem dX3_addRelation_60 : decode cX3_addRelation 60 = .ok (.invokevirtual 43, 3) := by decide +kernel
theorem dX3_addRelation_63 : decode cX3_addRelation 63 = .ok (.aload_n 0, 1) := by decide +kernel
theorem dX3_addRelation_64 : decode cX3_addRelation 64 = .ok (.getfield 30, 3) := by decide +kernel
theorem dX3_addRelation_67 : decode cX3_addRelation 67 = .ok (.iconst 1, 1) := by decide +kernel
theorem dX3_addRelation_68 : decode cX3_addRelation 68 = .ok (.isub, 1) := by decide +kernel
theorem dX3_addRelation_69 : decode cX3_addRelation 69 = .ok (.ireturn, 1) := by decide +kernel
theorem dX3_layOut_0 : decode cX3_layOut 0 = .ok (.aload_n 0, 1) := by decide +kernel
theorem dX3_layOut_1 : decode cX3_layOut 1 = .ok (.iconst 0, 1) := by decide +kernel
theorem dX3_layOut_2 : decode cX3_layOut 2 = .ok (.putfield 34, 3) := by decide +kernel
theorem dX3_layOut_5 : decode cX3_layOut 5 = .ok (.iconst 0, 1) := by decide +kernel
theorem dX3_layOut_6 : decode cX3_layOut 6 = .ok (.istore_n 1, 1) := by decide +kernel
theorem dX3_layOut_7 : decode cX3_layOut 7 = .ok (.iload_n 1, 1) := by decide +kernel
theorem dX3_layOut_8 : decode cX3_layOut 8 = .ok (.aload_n 0, 1) := by decide +kernel
theorem dX3_layOut_9 : decode cX3_layOut 9 = .ok (.getfield 30, 3) := by decide +kernel
theorem dX3_layOut_12 : decode cX3_layOut 12 = .ok (.if_icmp .ge 86, 3) := by decide +kernel
theorem dX3_layOut_15 : decode cX3_layOut 15 = .ok (.aload_n 0, 1) := by decide +kernel
theorem dX3_layOut_16 : decode cX3_layOut 16 = .ok (.getfield 18, 3) := by decide +kernel
theorem dX3_layOut_19 : decode cX3_layOut 19 = .ok (.iload_n 1, 1) := by decide +kernel
theorem dX3_layOut_20 : decode cX3_layOut 20 = .ok (.iaload, 1) := by decide +kernel
theorem dX3_layOut_21 : decode cX3_layOut 21 = .ok (.istore_n 2, 1) := by decide +kernel
theorem dX3_layOut_22 : decode cX3_layOut 22 = .ok (.aload_n 0, 1) := by decide +kernel
theorem dX3_layOut_23 : decode cX3_layOut 23 = .ok (.getfield 21, 3) := by decide +kernel
theorem dX3_layOut_26 : decode cX3_layOut 26 = .ok (.iload_n 1, 1) := by decide +kernel
theorem dX3_layOut_27 : decode cX3_layOut 27 = .ok (.aload_n 0, 1) := by decide +kernel
theorem dX3_layOut_28 : decode cX3_layOut 28 = .ok (.getfield 34, 3) := by decide +kernel
theorem dX3_layOut_31 : decode cX3_layOut 31 = .ok (.iastore, 1) := by decide +kernel
theorem dX3_layOut_32 : decode cX3_layOut 32 = .ok (.aload_n 0, 1) := by decide +kernel
theorem dX3_layOut_33 : decode cX3_layOut 33 = .ok (.getfield 24, 3) := by decide +kernel
theorem dX3_layOut_36 : decode cX3_layOut 36 = .ok (.iload_n 1, 1) := by decide +kernel
theorem dX3_layOut_37 : decode cX3_layOut 37 = .ok (.aload_n 0, 1) := by decide +kernel
theorem dX3_layOut_38 : decode cX3_layOut 38 = .ok (.getfield 9, 3) := by decide +kernel
theorem dX3_layOut_41 : decode cX3_layOut 41 = .ok (.aload_n 0, 1) := by decide +kernel
theorem dX3_layOut_42 : decode cX3_layOut 42 = .ok (.getfield 15, 3) := by decide +kernel
theorem dX3_layOut_45 : decode cX3_layOut 45 = .ok (.iload_n 1, 1) := by decide +kernel
theorem dX3_layOut_46 : decode cX3_layOut 46 = .ok (.iaload, 1) := by decide +kernel
theorem dX3_layOut_47 : decode cX3_layOut 47 = .ok (.iaload, 1) := by decide +kernel
theorem dX3_layOut_48 : decode cX3_layOut 48 = .ok (.iastore, 1) := by decide +kernel
theorem dX3_layOut_49 : decode cX3_layOut 49 = .ok (.aload_n 0, 1) := by decide +kernel
theorem dX3_layOut_50 : decode cX3_layOut 50 = .ok (.getfield 27, 3) := by decide +kernel
theorem dX3_layOut_53 : decode cX3_layOut 53 = .ok (.iload_n 1, 1) := by decide +kernel
theorem dX3_layOut_54 : decode cX3_layOut 54 = .ok (.iload_n 2, 1) := by decide +kernel
theorem dX3_layOut_55 : decode cX3_layOut 55 = .ok (.iconst (-1), 1) := by decide +kernel
theorem dX3_layOut_56 : decode cX3_layOut 56 = .ok (.if_icmp .ne 7, 3) := by decide +kernel
theorem dX3_layOut_59 : decode cX3_layOut 59 = .ok (.iconst 1, 1) := by decide +kernel
theorem dX3_layOut_60 : decode cX3_layOut 60 = .ok (.goto 9, 3) := by decide +kernel
theorem dX3_layOut_63 : decode cX3_layOut 63 = .ok (.aload_n 0, 1) := by decide +kernel
theorem dX3_layOut_64 : decode cX3_layOut 64 = .ok (.getfield 9, 3) := by decide +kernel
theorem dX3_layOut_67 : decode cX3_layOut 67 = .ok (.iload_n 2, 1) := by decide +kernel
theorem dX3_layOut_68 : decode cX3_layOut 68 = .ok (.iaload, 1) := by decide +kernel
theorem dX3_layOut_69 : decode cX3_layOut 69 = .ok (.iastore, 1) := by decide +kernel
theorem dX3_layOut_70 : decode cX3_layOut 70 = .ok (.aload_n 0, 1) := by decide +kernel
theorem dX3_layOut_71 : decode cX3_layOut 71 = .ok (.dup, 1) := by decide +kernel
theorem dX3_layOut_72 : decode cX3_layOut 72 = .ok (.getfield 34, 3) := by decide +kernel
theorem dX3_layOut_75 : decode cX3_layOut 75 = .ok (.aload_n 0, 1) := by decide +kernel
theorem dX3_layOut_76 : decode cX3_layOut 76 = .ok (.getfield 24, 3) := by decide +kernel
theorem dX3_layOut_79 : decode cX3_layOut 79 = .ok (.iload_n 1, 1) := by decide +kernel
theorem dX3_layOut_80 : decode cX3_layOut 80 = .ok (.iaload, 1) := by decide +kernel
theorem dX3_layOut_81 : decode cX3_layOut 81 = .ok (.aload_n 0, 1) := by decide +kernel
theorem dX3_layOut_82 : decode cX3_layOut 82 = .ok (.getfield 27, 3) := by decide +kernel
theorem dX3_layOut_85 : decode cX3_layOut 85 = .ok (.iload_n 1, 1) := by decide +kernel
theorem dX3_layOut_86 : decode cX3_layOut 86 = .ok (.iaload, 1) := by decide +kernel
theorem dX3_layOut_87 : decode cX3_layOut 87 = .ok (.imul, 1) := by decide +kernel
theorem dX3_layOut_88 : decode cX3_layOut 88 = .ok (.iadd, 1) := by decide +kernel
theorem dX3_layOut_89 : decode cX3_layOut 89 = .ok (.putfield 34, 3) := by decide +kernel
theorem dX3_layOut_92 : decode cX3_layOut 92 = .ok (.iinc 1 1, 3) := by decide +kernel
theorem dX3_layOut_95 : decode cX3_layOut 95 = .ok (.goto (-88), 3) := by decide +kernel
theorem dX3_layOut_98 : decode cX3_layOut 98 = .ok (.return_, 1) := by decide +kernel
theorem dX3_hasRelation_0 : decode cX3_hasRelation 0 = .ok (.iload_n 1, 1) := by decide +kernel
theorem dX3_hasRelation_1 : decode cX3_hasRelation 1 = .ok (.ifCond .lt 15, 3) := by decide +kernel
theorem dX3_hasRelation_4 : decode cX3_hasRelation 4 = .ok (.iload_n 1, 1) := by decide +kernel
theorem dX3_hasRelation_5 : decode cX3_hasRelation 5 = .ok (.aload_n 0, 1) := by decide +kernel
theorem dX3_hasRelation_6 : decode cX3_hasRelation 6 = .ok (.getfield 30, 3) := by decide +kernel
theorem dX3_hasRelation_9 : decode cX3_hasRelation 9 = .ok (.if_icmp .ge 7, 3) := by decide +kernel
theorem dX3_hasRelation_12 : decode cX3_hasRelation 12 = .ok (.iconst 1, 1) := by decide +kernel
theorem dX3_hasRelation_13 : decode cX3_hasRelation 13 = .ok (.goto 4, 3) := by decide +kernel
theorem dX3_hasRelation_16 : decode cX3_hasRelation 16 = .ok (.iconst 0, 1) := by decide +kernel
theorem dX3_hasRelation_17 : decode cX3_hasRelation 17 = .ok (.ireturn, 1) := by decide +kernel
theorem dX3_isOfTwo_0 : decode cX3_isOfTwo 0 = .ok (.iload_n 1, 1) := by decide +kernel
theorem dX3_isOfTwo_1 : decode cX3_isOfTwo 1 = .ok (.ifCond .lt 25, 3) := by decide +kernel
theorem dX3_isOfTwo_4 : decode cX3_isOfTwo 4 = .ok (.iload_n 1, 1) := by decide +kernel
theorem dX3_isOfTwo_5 : decode cX3_isOfTwo 5 = .ok (.aload_n 0, 1) := by decide +kernel
theorem dX3_isOfTwo_6 : decode cX3_isOfTwo 6 = .ok (.getfield 30, 3) := by decide +kernel
theorem dX3_isOfTwo_9 : decode cX3_isOfTwo 9 = .ok (.if_icmp .ge 17, 3) := by decide +kernel
theorem dX3_isOfTwo_12 : decode cX3_isOfTwo 12 = .ok (.aload_n 0, 1) := by decide +kernel
theorem dX3_isOfTwo_13 : decode cX3_isOfTwo 13 = .ok (.getfield 18, 3) := by decide +kernel
theorem dX3_isOfTwo_16 : decode cX3_isOfTwo 16 = .ok (.iload_n 1, 1) := by decide +kernel
theorem dX3_isOfTwo_17 : decode cX3_isOfTwo 17 = .ok (.iaload, 1) := by decide +kernel
theorem dX3_isOfTwo_18 : decode cX3_isOfTwo 18 = .ok (.iconst (-1), 1) := by decide +kernel
theorem dX3_isOfTwo_19 : decode cX3_isOfTwo 19 = .ok (.if_icmp .eq 7, 3) := by decide +kernel
theorem dX3_isOfTwo_22 : decode cX3_isOfTwo 22 = .ok (.iconst 1, 1) := by decide +kernel
theorem dX3_isOfTwo_23 : decode cX3_isOfTwo 23 = .ok (.goto 4, 3) := by decide +kernel
theorem dX3_isOfTwo_26 : decode cX3_isOfTwo 26 = .ok (.iconst 0, 1) := by decide +kernel
theorem dX3_isOfTwo_27 : decode cX3_isOfTwo 27 = .ok (.ireturn, 1) := by decide +kernel
theorem dX3_isOfOneKindTwice_0 : decode cX3_isOfOneKindTwice 0 = .ok (.iload_n 1, 1) := by decide +kernel
theorem dX3_isOfOneKindTwice_1 : decode cX3_isOfOneKindTwice 1 = .ok (.ifCond .lt 30, 3) := by decide +kernel
theorem dX3_isOfOneKindTwice_4 : decode cX3_isOfOneKindTwice 4 = .ok (.iload_n 1, 1) := by decide +kernel
theorem dX3_isOfOneKindTwice_5 : decode cX3_isOfOneKindTwice 5 = .ok (.aload_n 0, 1) := by decide +kernel
theorem dX3_isOfOneKindTwice_6 : decode cX3_isOfOneKindTwice 6 = .ok (.getfield 30, 3) := by decide +kernel
theorem dX3_isOfOneKindTwice_9 : decode cX3_isOfOneKindTwice 9 = .ok (.if_icmp .ge 22, 3) := by decide +kernel
theorem dX3_isOfOneKindTwice_12 : decode cX3_isOfOneKindTwice 12 = .ok (.aload_n 0, 1) := by decide +kernel
theorem dX3_isOfOneKindTwice_13 : decode cX3_isOfOneKindTwice 13 = .ok (.getfield 15, 3) := by decide +kernel
theorem dX3_isOfOneKindTwice_16 : decode cX3_isOfOneKindTwice 16 = .ok (.iload_n 1, 1) := by decide +kernel
theorem dX3_isOfOneKindTwice_17 : decode cX3_isOfOneKindTwice 17 = .ok (.iaload, 1) := by decide +kernel
theorem dX3_isOfOneKindTwice_18 : decode cX3_isOfOneKindTwice 18 = .ok (.aload_n 0, 1) := by decide +kernel
theorem dX3_isOfOneKindTwice_19 : decode cX3_isOfOneKindTwice 19 = .ok (.getfield 18, 3) := by decide +kernel
theorem dX3_isOfOneKindTwice_22 : decode cX3_isOfOneKindTwice 22 = .ok (.iload_n 1, 1) := by decide +kernel
theorem dX3_isOfOneKindTwice_23 : decode cX3_isOfOneKindTwice 23 = .ok (.iaload, 1) := by decide +kernel
theorem dX3_isOfOneKindTwice_24 : decode cX3_isOfOneKindTwice 24 = .ok (.if_icmp .ne 7, 3) := by decide +kernel
theorem dX3_isOfOneKindTwice_27 : decode cX3_isOfOneKindTwice 27 = .ok (.iconst 1, 1) := by decide +kernel
theorem dX3_isOfOneKindTwice_28 : decode cX3_isOfOneKindTwice 28 = .ok (.goto 4, 3) := by decide +kernel
theorem dX3_isOfOneKindTwice_31 : decode cX3_isOfOneKindTwice 31 = .ok (.iconst 0, 1) := by decide +kernel
theorem dX3_isOfOneKindTwice_32 : decode cX3_isOfOneKindTwice 32 = .ok (.ireturn, 1) := by decide +kernel
theorem dX3_place_0 : decode cX3_place 0 = .ok (.iload_n 1, 1) := by decide +kernel
theorem dX3_place_1 : decode cX3_place 1 = .ok (.ifCond .lt 11, 3) := by decide +kernel
theorem dX3_place_4 : decode cX3_place 4 = .ok (.iload_n 1, 1) := by decide +kernel
theorem dX3_place_5 : decode cX3_place 5 = .ok (.aload_n 0, 1) := by decide +kernel
theorem dX3_place_6 : decode cX3_place 6 = .ok (.getfield 30, 3) := by decide +kernel
theorem dX3_place_9 : decode cX3_place 9 = .ok (.if_icmp .lt 5, 3) := by decide +kernel
theorem dX3_place_12 : decode cX3_place 12 = .ok (.iconst (-1), 1) := by decide +kernel
theorem dX3_place_13 : decode cX3_place 13 = .ok (.ireturn, 1) := by decide +kernel
theorem dX3_place_14 : decode cX3_place 14 = .ok (.aload_n 0, 1) := by decide +kernel
theorem dX3_place_15 : decode cX3_place 15 = .ok (.getfield 18, 3) := by decide +kernel
theorem dX3_place_18 : decode cX3_place 18 = .ok (.iload_n 1, 1) := by decide +kernel
theorem dX3_place_19 : decode cX3_place 19 = .ok (.iaload, 1) := by decide +kernel
theorem dX3_place_20 : decode cX3_place 20 = .ok (.iconst (-1), 1) := by decide +kernel
theorem dX3_place_21 : decode cX3_place 21 = .ok (.if_icmp .ne 7, 3) := by decide +kernel
theorem dX3_place_24 : decode cX3_place 24 = .ok (.iconst 0, 1) := by decide +kernel
theorem dX3_place_25 : decode cX3_place 25 = .ok (.goto 4, 3) := by decide +kernel
theorem dX3_place_28 : decode cX3_place 28 = .ok (.iload_n 3, 1) := by decide +kernel
theorem dX3_place_29 : decode cX3_place 29 = .ok (.istore 4, 2) := by decide +kernel
theorem dX3_place_31 : decode cX3_place 31 = .ok (.iload_n 2, 1) := by decide +kernel
theorem dX3_place_32 : decode cX3_place 32 = .ok (.ifCond .lt 29, 3) := by decide +kernel
theorem dX3_place_35 : decode cX3_place 35 = .ok (.iload_n 2, 1) := by decide +kernel
theorem dX3_place_36 : decode cX3_place 36 = .ok (.aload_n 0, 1) := by decide +kernel
theorem dX3_place_37 : decode cX3_place 37 = .ok (.getfield 24, 3) := by decide +kernel
theorem dX3_place_40 : decode cX3_place 40 = .ok (.iload_n 1, 1) := by decide +kernel
theorem dX3_place_41 : decode cX3_place 41 = .ok (.iaload, 1) := by decide +kernel
theorem dX3_place_42 : decode cX3_place 42 = .ok (.if_icmp .ge 19, 3) := by decide +kernel
theorem dX3_place_45 : decode cX3_place 45 = .ok (.iload 4, 2) := by decide +kernel
theorem dX3_place_47 : decode cX3_place 47 = .ok (.ifCond .lt 14, 3) := by decide +kernel
theorem dX3_place_50 : decode cX3_place 50 = .ok (.iload 4, 2) := by decide +kernel
theorem dX3_place_52 : decode cX3_place 52 = .ok (.aload_n 0, 1) := by decide +kernel
theorem dX3_place_53 : decode cX3_place 53 = .ok (.getfield 27, 3) := by decide +kernel
theorem dX3_place_56 : decode cX3_place 56 = .ok (.iload_n 1, 1) := by decide +kernel
theorem dX3_place_57 : decode cX3_place 57 = .ok (.iaload, 1) := by decide +kernel
theorem dX3_place_58 : decode cX3_place 58 = .ok (.if_icmp .lt 5, 3) := by decide +kernel
theorem dX3_place_61 : decode cX3_place 61 = .ok (.iconst (-1), 1) := by decide +kernel
theorem dX3_place_62 : decode cX3_place 62 = .ok (.ireturn, 1) := by decide +kernel
theorem dX3_place_63 : decode cX3_place 63 = .ok (.aload_n 0, 1) := by decide +kernel
theorem dX3_place_64 : decode cX3_place 64 = .ok (.getfield 21, 3) := by decide +kernel
theorem dX3_place_67 : decode cX3_place 67 = .ok (.iload_n 1, 1) := by decide +kernel
theorem dX3_place_68 : decode cX3_place 68 = .ok (.iaload, 1) := by decide +kernel
theorem dX3_place_69 : decode cX3_place 69 = .ok (.iload_n 2, 1) := by decide +kernel
theorem dX3_place_70 : decode cX3_place 70 = .ok (.aload_n 0, 1) := by decide +kernel
theorem dX3_place_71 : decode cX3_place 71 = .ok (.getfield 27, 3) := by decide +kernel
theorem dX3_place_74 : decode cX3_place 74 = .ok (.iload_n 1, 1) := by decide +kernel
theorem dX3_place_75 : decode cX3_place 75 = .ok (.iaload, 1) := by decide +kernel
theorem dX3_place_76 : decode cX3_place 76 = .ok (.imul, 1) := by decide +kernel
theorem dX3_place_77 : decode cX3_place 77 = .ok (.iadd, 1) := by decide +kernel
theorem dX3_place_78 : decode cX3_place 78 = .ok (.iload 4, 2) := by decide +kernel
theorem dX3_place_80 : decode cX3_place 80 = .ok (.iadd, 1) := by decide +kernel
theorem dX3_place_81 : decode cX3_place 81 = .ok (.ireturn, 1) := by decide +kernel
theorem dX3_bit_0 : decode cX3_bit 0 = .ok (.aload_n 0, 1) := by decide +kernel
theorem dX3_bit_1 : decode cX3_bit 1 = .ok (.getfield 34, 3) := by decide +kernel
theorem dX3_bit_4 : decode cX3_bit 4 = .ok (.iconst 1, 1) := by decide +kernel
theorem dX3_bit_5 : decode cX3_bit 5 = .ok (.isub, 1) := by decide +kernel
theorem dX3_bit_6 : decode cX3_bit 6 = .ok (.iload_n 1, 1) := by decide +kernel
theorem dX3_bit_7 : decode cX3_bit 7 = .ok (.isub, 1) := by decide +kernel
theorem dX3_bit_8 : decode cX3_bit 8 = .ok (.ireturn, 1) := by decide +kernel
theorem dX3_relationAt_0 : decode cX3_relationAt 0 = .ok (.iconst (-1), 1) := by decide +kernel
theorem dX3_relationAt_1 : decode cX3_relationAt 1 = .ok (.istore_n 2, 1) := by decide +kernel
theorem dX3_relationAt_2 : decode cX3_relationAt 2 = .ok (.iconst 0, 1) := by decide +kernel
theorem dX3_relationAt_3 : decode cX3_relationAt 3 = .ok (.istore_n 3, 1) := by decide +kernel
theorem dX3_relationAt_4 : decode cX3_relationAt 4 = .ok (.iload_n 3, 1) := by decide +kernel
theorem dX3_relationAt_5 : decode cX3_relationAt 5 = .ok (.aload_n 0, 1) := by decide +kernel
theorem dX3_relationAt_6 : decode cX3_relationAt 6 = .ok (.getfield 30, 3) := by decide +kernel
theorem dX3_relationAt_9 : decode cX3_relationAt 9 = .ok (.if_icmp .ge 21, 3) := by decide +kernel
theorem dX3_relationAt_12 : decode cX3_relationAt 12 = .ok (.aload_n 0, 1) := by decide +kernel
theorem dX3_relationAt_13 : decode cX3_relationAt 13 = .ok (.getfield 21, 3) := by decide +kernel
theorem dX3_relationAt_16 : decode cX3_relationAt 16 = .ok (.iload_n 3, 1) := by decide +kernel
theorem dX3_relationAt_17 : decode cX3_relationAt 17 = .ok (.iaload, 1) := by decide +kernel
theorem dX3_relationAt_18 : decode cX3_relationAt 18 = .ok (.iload_n 1, 1) := by decide +kernel
theorem dX3_relationAt_19 : decode cX3_relationAt 19 = .ok (.if_icmp .gt 5, 3) := by decide +kernel
theorem dX3_relationAt_22 : decode cX3_relationAt 22 = .ok (.iload_n 3, 1) := by decide +kernel
theorem dX3_relationAt_23 : decode cX3_relationAt 23 = .ok (.istore_n 2, 1) := by decide +kernel
theorem dX3_relationAt_24 : decode cX3_relationAt 24 = .ok (.iinc 3 1, 3) := by decide +kernel
theorem dX3_relationAt_27 : decode cX3_relationAt 27 = .ok (.goto (-23), 3) := by decide +kernel
theorem dX3_relationAt_30 : decode cX3_relationAt 30 = .ok (.iload_n 2, 1) := by decide +kernel
theorem dX3_relationAt_31 : decode cX3_relationAt 31 = .ok (.ireturn, 1) := by decide +kernel
theorem dX3_firstAt_0 : decode cX3_firstAt 0 = .ok (.aload_n 0, 1) := by decide +kernel
theorem dX3_firstAt_1 : decode cX3_firstAt 1 = .ok (.iload_n 1, 1) := by decide +kernel
theorem dX3_firstAt_2 : decode cX3_firstAt 2 = .ok (.invokevirtual 50, 3) := by decide +kernel
theorem dX3_firstAt_5 : decode cX3_firstAt 5 = .ok (.ifCond .ne 5, 3) := by decide +kernel
theorem dX3_firstAt_8 : decode cX3_firstAt 8 = .ok (.iconst (-1), 1) := by decide +kernel
theorem dX3_firstAt_9 : decode cX3_firstAt 9 = .ok (.ireturn, 1) := by decide +kernel
theorem dX3_firstAt_10 : decode cX3_firstAt 10 = .ok (.iconst 0, 1) := by decide +kernel
theorem dX3_firstAt_11 : decode cX3_firstAt 11 = .ok (.istore_n 3, 1) := by decide +kernel
theorem dX3_firstAt_12 : decode cX3_firstAt 12 = .ok (.iload_n 3, 1) := by decide +kernel
theorem dX3_firstAt_13 : decode cX3_firstAt 13 = .ok (.aload_n 0, 1) := by decide +kernel
theorem dX3_firstAt_14 : decode cX3_firstAt 14 = .ok (.getfield 24, 3) := by decide +kernel
theorem dX3_firstAt_17 : decode cX3_firstAt 17 = .ok (.iload_n 1, 1) := by decide +kernel
theorem dX3_firstAt_18 : decode cX3_firstAt 18 = .ok (.iaload, 1) := by decide +kernel
theorem dX3_firstAt_19 : decode cX3_firstAt 19 = .ok (.if_icmp .ge 32, 3) := by decide +kernel
theorem dX3_firstAt_22 : decode cX3_firstAt 22 = .ok (.iload_n 2, 1) := by decide +kernel
theorem dX3_firstAt_23 : decode cX3_firstAt 23 = .ok (.aload_n 0, 1) := by decide +kernel
theorem dX3_firstAt_24 : decode cX3_firstAt 24 = .ok (.getfield 21, 3) := by decide +kernel
theorem dX3_firstAt_27 : decode cX3_firstAt 27 = .ok (.iload_n 1, 1) := by decide +kernel
theorem dX3_firstAt_28 : decode cX3_firstAt 28 = .ok (.iaload, 1) := by decide +kernel
theorem dX3_firstAt_29 : decode cX3_firstAt 29 = .ok (.iload_n 3, 1) := by decide +kernel
theorem dX3_firstAt_30 : decode cX3_firstAt 30 = .ok (.iconst 1, 1) := by decide +kernel
theorem dX3_firstAt_31 : decode cX3_firstAt 31 = .ok (.iadd, 1) := by decide +kernel
theorem dX3_firstAt_32 : decode cX3_firstAt 32 = .ok (.aload_n 0, 1) := by decide +kernel
theorem dX3_firstAt_33 : decode cX3_firstAt 33 = .ok (.getfield 27, 3) := by decide +kernel
theorem dX3_firstAt_36 : decode cX3_firstAt 36 = .ok (.iload_n 1, 1) := by decide +kernel
theorem dX3_firstAt_37 : decode cX3_firstAt 37 = .ok (.iaload, 1) := by decide +kernel
theorem dX3_firstAt_38 : decode cX3_firstAt 38 = .ok (.imul, 1) := by decide +kernel
theorem dX3_firstAt_39 : decode cX3_firstAt 39 = .ok (.iadd, 1) := by decide +kernel
theorem dX3_firstAt_40 : decode cX3_firstAt 40 = .ok (.if_icmp .ge 5, 3) := by decide +kernel
theorem dX3_firstAt_43 : decode cX3_firstAt 43 = .ok (.iload_n 3, 1) := by decide +kernel
theorem dX3_firstAt_44 : decode cX3_firstAt 44 = .ok (.ireturn, 1) := by decide +kernel
theorem dX3_firstAt_45 : decode cX3_firstAt 45 = .ok (.iinc 3 1, 3) := by decide +kernel
theorem dX3_firstAt_48 : decode cX3_firstAt 48 = .ok (.goto (-36), 3) := by decide +kernel
theorem dX3_firstAt_51 : decode cX3_firstAt 51 = .ok (.iconst (-1), 1) := by decide +kernel
theorem dX3_firstAt_52 : decode cX3_firstAt 52 = .ok (.ireturn, 1) := by decide +kernel
theorem dX3_secondAt_0 : decode cX3_secondAt 0 = .ok (.aload_n 0, 1) := by decide +kernel
theorem dX3_secondAt_1 : decode cX3_secondAt 1 = .ok (.iload_n 1, 1) := by decide +kernel
theorem dX3_secondAt_2 : decode cX3_secondAt 2 = .ok (.invokevirtual 53, 3) := by decide +kernel
theorem dX3_secondAt_5 : decode cX3_secondAt 5 = .ok (.ifCond .ne 5, 3) := by decide +kernel
theorem dX3_secondAt_8 : decode cX3_secondAt 8 = .ok (.iconst (-1), 1) := by decide +kernel
theorem dX3_secondAt_9 : decode cX3_secondAt 9 = .ok (.ireturn, 1) := by decide +kernel
theorem dX3_secondAt_10 : decode cX3_secondAt 10 = .ok (.iload_n 2, 1) := by decide +kernel
theorem dX3_secondAt_11 : decode cX3_secondAt 11 = .ok (.aload_n 0, 1) := by decide +kernel
theorem dX3_secondAt_12 : decode cX3_secondAt 12 = .ok (.getfield 21, 3) := by decide +kernel
theorem dX3_secondAt_15 : decode cX3_secondAt 15 = .ok (.iload_n 1, 1) := by decide +kernel
theorem dX3_secondAt_16 : decode cX3_secondAt 16 = .ok (.iaload, 1) := by decide +kernel
theorem dX3_secondAt_17 : decode cX3_secondAt 17 = .ok (.isub, 1) := by decide +kernel
theorem dX3_secondAt_18 : decode cX3_secondAt 18 = .ok (.aload_n 0, 1) := by decide +kernel
theorem dX3_secondAt_19 : decode cX3_secondAt 19 = .ok (.iload_n 1, 1) := by decide +kernel
theorem dX3_secondAt_20 : decode cX3_secondAt 20 = .ok (.iload_n 2, 1) := by decide +kernel
theorem dX3_secondAt_21 : decode cX3_secondAt 21 = .ok (.invokevirtual 56, 3) := by decide +kernel
theorem dX3_secondAt_24 : decode cX3_secondAt 24 = .ok (.aload_n 0, 1) := by decide +kernel
theorem dX3_secondAt_25 : decode cX3_secondAt 25 = .ok (.getfield 27, 3) := by decide +kernel
theorem dX3_secondAt_28 : decode cX3_secondAt 28 = .ok (.iload_n 1, 1) := by decide +kernel
theorem dX3_secondAt_29 : decode cX3_secondAt 29 = .ok (.iaload, 1) := by decide +kernel
theorem dX3_secondAt_30 : decode cX3_secondAt 30 = .ok (.imul, 1) := by decide +kernel
theorem dX3_secondAt_31 : decode cX3_secondAt 31 = .ok (.isub, 1) := by decide +kernel
theorem dX3_secondAt_32 : decode cX3_secondAt 32 = .ok (.ireturn, 1) := by decide +kernel
theorem dX4_init_0 : decode cX4_init 0 = .ok (.aload_n 0, 1) := by decide +kernel
theorem dX4_init_1 : decode cX4_init 1 = .ok (.invokespecial 3, 3) := by decide +kernel
theorem dX4_init_4 : decode cX4_init 4 = .ok (.aload_n 0, 1) := by decide +kernel
theorem dX4_init_5 : decode cX4_init 5 = .ok (.new 9, 3) := by decide +kernel
theorem dX4_init_8 : decode cX4_init 8 = .ok (.dup, 1) := by decide +kernel
theorem dX4_init_9 : decode cX4_init 9 = .ok (.invokespecial 11, 3) := by decide +kernel
theorem dX4_init_12 : decode cX4_init 12 = .ok (.putfield 12, 3) := by decide +kernel
theorem dX4_init_15 : decode cX4_init 15 = .ok (.aload_n 0, 1) := by decide +kernel
theorem dX4_init_16 : decode cX4_init 16 = .ok (.new 18, 3) := by decide +kernel
theorem dX4_init_19 : decode cX4_init 19 = .ok (.dup, 1) := by decide +kernel
theorem dX4_init_20 : decode cX4_init 20 = .ok (.invokespecial 20, 3) := by decide +kernel
theorem dX4_init_23 : decode cX4_init 23 = .ok (.putfield 21, 3) := by decide +kernel
theorem dX4_init_26 : decode cX4_init 26 = .ok (.aload_n 0, 1) := by decide +kernel
theorem dX4_init_27 : decode cX4_init 27 = .ok (.new 25, 3) := by decide +kernel
theorem dX4_init_30 : decode cX4_init 30 = .ok (.dup, 1) := by decide +kernel
theorem dX4_init_31 : decode cX4_init 31 = .ok (.invokespecial 27, 3) := by decide +kernel
theorem dX4_init_34 : decode cX4_init 34 = .ok (.putfield 28, 3) := by decide +kernel
theorem dX4_init_37 : decode cX4_init 37 = .ok (.aload_n 0, 1) := by decide +kernel
theorem dX4_init_38 : decode cX4_init 38 = .ok (.bipush 9, 2) := by decide +kernel
theorem dX4_init_40 : decode cX4_init 40 = .ok (.anewarray 32, 3) := by decide +kernel
theorem dX4_init_43 : decode cX4_init 43 = .ok (.putfield 34, 3) := by decide +kernel
theorem dX4_init_46 : decode cX4_init 46 = .ok (.aload_n 0, 1) := by decide +kernel
theorem dX4_init_47 : decode cX4_init 47 = .ok (.iconst 0, 1) := by decide +kernel
theorem dX4_init_48 : decode cX4_init 48 = .ok (.putfield 38, 3) := by decide +kernel
theorem dX4_init_51 : decode cX4_init 51 = .ok (.aload_n 0, 1) := by decide +kernel
theorem dX4_init_52 : decode cX4_init 52 = .ok (.new 32, 3) := by decide +kernel
theorem dX4_init_55 : decode cX4_init 55 = .ok (.dup, 1) := by decide +kernel
theorem dX4_init_56 : decode cX4_init 56 = .ok (.invokespecial 42, 3) := by decide +kernel
theorem dX4_init_59 : decode cX4_init 59 = .ok (.putfield 43, 3) := by decide +kernel
theorem dX4_init_62 : decode cX4_init 62 = .ok (.aload_n 0, 1) := by decide +kernel
theorem dX4_init_63 : decode cX4_init 63 = .ok (.new 32, 3) := by decide +kernel
theorem dX4_init_66 : decode cX4_init 66 = .ok (.dup, 1) := by decide +kernel
theorem dX4_init_67 : decode cX4_init 67 = .ok (.invokespecial 42, 3) := by decide +kernel
theorem dX4_init_70 : decode cX4_init 70 = .ok (.putfield 47, 3) := by decide +kernel
theorem dX4_init_73 : decode cX4_init 73 = .ok (.aload_n 0, 1) := by decide +kernel
theorem dX4_init_74 : decode cX4_init 74 = .ok (.new 32, 3) := by decide +kernel
theorem dX4_init_77 : decode cX4_init 77 = .ok (.dup, 1) := by decide +kernel
theorem dX4_init_78 : decode cX4_init 78 = .ok (.invokespecial 42, 3) := by decide +kernel
theorem dX4_init_81 : decode cX4_init 81 = .ok (.putfield 50, 3) := by decide +kernel
theorem dX4_init_84 : decode cX4_init 84 = .ok (.aload_n 0, 1) := by decide +kernel
theorem dX4_init_85 : decode cX4_init 85 = .ok (.new 53, 3) := by decide +kernel
theorem dX4_init_88 : decode cX4_init 88 = .ok (.dup, 1) := by decide +kernel
theorem dX4_init_89 : decode cX4_init 89 = .ok (.invokespecial 55, 3) := by decide +kernel
theorem dX4_init_92 : decode cX4_init 92 = .ok (.putfield 56, 3) := by decide +kernel
theorem dX4_init_95 : decode cX4_init 95 = .ok (.aload_n 0, 1) := by decide +kernel
theorem dX4_init_96 : decode cX4_init 96 = .ok (.iconst 3, 1) := by decide +kernel
theorem dX4_init_97 : decode cX4_init 97 = .ok (.newarray .int, 2) := by decide +kernel
theorem dX4_init_99 : decode cX4_init 99 = .ok (.putfield 60, 3) := by decide +kernel
theorem dX4_init_102 : decode cX4_init 102 = .ok (.aload_n 0, 1) := by decide +kernel
theorem dX4_init_103 : decode cX4_init 103 = .ok (.iconst (-1), 1) := by decide +kernel
theorem dX4_init_104 : decode cX4_init 104 = .ok (.putfield 64, 3) := by decide +kernel
theorem dX4_init_107 : decode cX4_init 107 = .ok (.aload_n 0, 1) := by decide +kernel
theorem dX4_init_108 : decode cX4_init 108 = .ok (.bipush 12, 2) := by decide +kernel
theorem dX4_init_110 : decode cX4_init 110 = .ok (.newarray .int, 2) := by decide +kernel
theorem dX4_init_112 : decode cX4_init 112 = .ok (.putfield 67, 3) := by decide +kernel
theorem dX4_init_115 : decode cX4_init 115 = .ok (.iconst 0, 1) := by decide +kernel
theorem dX4_init_116 : decode cX4_init 116 = .ok (.istore_n 1, 1) := by decide +kernel
theorem dX4_init_117 : decode cX4_init 117 = .ok (.iload_n 1, 1) := by decide +kernel
theorem dX4_init_118 : decode cX4_init 118 = .ok (.bipush 8, 2) := by decide +kernel
theorem dX4_init_120 : decode cX4_init 120 = .ok (.if_icmp .gt 22, 3) := by decide +kernel
theorem dX4_init_123 : decode cX4_init 123 = .ok (.aload_n 0, 1) := by decide +kernel
theorem dX4_init_124 : decode cX4_init 124 = .ok (.getfield 34, 3) := by decide +kernel
theorem dX4_init_127 : decode cX4_init 127 = .ok (.iload_n 1, 1) := by decide +kernel
theorem dX4_init_128 : decode cX4_init 128 = .ok (.new 32, 3) := by decide +kernel
theorem dX4_init_131 : decode cX4_init 131 = .ok (.dup, 1) := by decide +kernel
theorem dX4_init_132 : decode cX4_init 132 = .ok (.invokespecial 42, 3) := by decide +kernel
theorem dX4_init_135 : decode cX4_init 135 = .ok (.aastore, 1) := by decide +kernel
theorem dX4_init_136 : decode cX4_init 136 = .ok (.iinc 1 1, 3) := by decide +kernel
theorem dX4_init_139 : decode cX4_init 139 = .ok (.goto (-22), 3) := by decide +kernel
theorem dX4_init_142 : decode cX4_init 142 = .ok (.return_, 1) := by decide +kernel
theorem dX4_forget_0 : decode cX4_forget 0 = .ok (.aload_n 0, 1) := by decide +kernel
theorem dX4_forget_1 : decode cX4_forget 1 = .ok (.iconst 0, 1) := by decide +kernel
theorem dX4_forget_2 : decode cX4_forget 2 = .ok (.putfield 38, 3) := by decide +kernel
theorem dX4_forget_5 : decode cX4_forget 5 = .ok (.aload_n 0, 1) := by decide +kernel
theorem dX4_forget_6 : decode cX4_forget 6 = .ok (.iconst (-1), 1) := by decide +kernel
theorem dX4_forget_7 : decode cX4_forget 7 = .ok (.putfield 64, 3) := by decide +kernel
theorem dX4_forget_10 : decode cX4_forget 10 = .ok (.aload_n 0, 1) := by decide +kernel
theorem dX4_forget_11 : decode cX4_forget 11 = .ok (.getfield 28, 3) := by decide +kernel
theorem dX4_forget_14 : decode cX4_forget 14 = .ok (.invokevirtual 70, 3) := by decide +kernel
theorem dX4_forget_17 : decode cX4_forget 17 = .ok (.return_, 1) := by decide +kernel
theorem dX4_forgetGuess_0 : decode cX4_forgetGuess 0 = .ok (.aload_n 0, 1) := by decide +kernel
theorem dX4_forgetGuess_1 : decode cX4_forgetGuess 1 = .ok (.dup, 1) := by decide +kernel
theorem dX4_forgetGuess_2 : decode cX4_forgetGuess 2 = .ok (.getfield 38, 3) := by decide +kernel
theorem dX4_forgetGuess_5 : decode cX4_forgetGuess 5 = .ok (.sipush (-257), 3) := by decide +kernel
theorem dX4_forgetGuess_8 : decode cX4_forgetGuess 8 = .ok (.iand, 1) := by decide +kernel
theorem dX4_forgetGuess_9 : decode cX4_forgetGuess 9 = .ok (.putfield 38, 3) := by decide +kernel
theorem dX4_forgetGuess_12 : decode cX4_forgetGuess 12 = .ok (.return_, 1) := by decide +kernel
theorem dX4_canTell_0 : decode cX4_canTell 0 = .ok (.aload_n 0, 1) := by decide +kernel
theorem dX4_canTell_1 : decode cX4_canTell 1 = .ok (.getfield 12, 3) := by decide +kernel
theorem dX4_canTell_4 : decode cX4_canTell 4 = .ok (.getfield 73, 3) := by decide +kernel
theorem dX4_canTell_7 : decode cX4_canTell 7 = .ok (.getfield 76, 3) := by decide +kernel
theorem dX4_canTell_10 : decode cX4_canTell 10 = .ok (.bipush 12, 2) := by decide +kernel
theorem dX4_canTell_12 : decode cX4_canTell 12 = .ok (.if_icmp .gt 7, 3) := by decide +kernel
theorem dX4_canTell_15 : decode cX4_canTell 15 = .ok (.iconst 1, 1) := by decide +kernel
theorem dX4_canTell_16 : decode cX4_canTell 16 = .ok (.goto 4, 3) := by decide +kernel
theorem dX4_canTell_19 : decode cX4_canTell 19 = .ok (.iconst 0, 1) := by decide +kernel
theorem dX4_canTell_20 : decode cX4_canTell 20 = .ok (.ireturn, 1) := by decide +kernel
theorem dX4_lookUp_0 : decode cX4_lookUp 0 = .ok (.aload_n 0, 1) := by decide +kernel
theorem dX4_lookUp_1 : decode cX4_lookUp 1 = .ok (.invokevirtual 79, 3) := by decide +kernel
theorem dX4_lookUp_4 : decode cX4_lookUp 4 = .ok (.ifCond .ne 5, 3) := by decide +kernel
theorem dX4_lookUp_7 : decode cX4_lookUp 7 = .ok (.iconst 0, 1) := by decide +kernel
theorem dX4_lookUp_8 : decode cX4_lookUp 8 = .ok (.ireturn, 1) := by decide +kernel
theorem dX4_lookUp_9 : decode cX4_lookUp 9 = .ok (.aload_n 0, 1) := by decide +kernel
theorem dX4_lookUp_10 : decode cX4_lookUp 10 = .ok (.invokevirtual 83, 3) := by decide +kernel
theorem dX4_lookUp_13 : decode cX4_lookUp 13 = .ok (.aload_n 0, 1) := by decide +kernel
theorem dX4_lookUp_14 : decode cX4_lookUp 14 = .ok (.getfield 47, 3) := by decide +kernel
theorem dX4_lookUp_17 : decode cX4_lookUp 17 = .ok (.aload_n 0, 1) := by decide +kernel
theorem dX4_lookUp_18 : decode cX4_lookUp 18 = .ok (.getfield 43, 3) := by decide +kernel
theorem dX4_lookUp_21 : decode cX4_lookUp 21 = .ok (.invokevirtual 86, 3) := by decide +kernel
theorem dX4_lookUp_24 : decode cX4_lookUp 24 = .ok (.aload_n 0, 1) := by decide +kernel
theorem dX4_lookUp_25 : decode cX4_lookUp 25 = .ok (.getfield 12, 3) := by decide +kernel
theorem dX4_lookUp_28 : decode cX4_lookUp 28 = .ok (.invokevirtual 90, 3) := by decide +kernel
theorem dX4_lookUp_31 : decode cX4_lookUp 31 = .ok (.istore_n 1, 1) := by decide +kernel
theorem dX4_lookUp_32 : decode cX4_lookUp 32 = .ok (.iconst 0, 1) := by decide +kernel
theorem dX4_lookUp_33 : decode cX4_lookUp 33 = .ok (.istore_n 2, 1) := by decide +kernel
theorem dX4_lookUp_34 : decode cX4_lookUp 34 = .ok (.iload_n 2, 1) := by decide +kernel
theorem dX4_lookUp_35 : decode cX4_lookUp 35 = .ok (.bipush 8, 2) := by decide +kernel
theorem dX4_lookUp_37 : decode cX4_lookUp 37 = .ok (.if_icmp .ge 38, 3) := by decide +kernel
theorem dX4_lookUp_40 : decode cX4_lookUp 40 = .ok (.iload_n 1, 1) := by decide +kernel
theorem dX4_lookUp_41 : decode cX4_lookUp 41 = .ok (.iload_n 2, 1) := by decide +kernel
theorem dX4_lookUp_42 : decode cX4_lookUp 42 = .ok (.ishr, 1) := by decide +kernel
theorem dX4_lookUp_43 : decode cX4_lookUp 43 = .ok (.iconst 1, 1) := by decide +kernel
theorem dX4_lookUp_44 : decode cX4_lookUp 44 = .ok (.iand, 1) := by decide +kernel
theorem dX4_lookUp_45 : decode cX4_lookUp 45 = .ok (.ifCond .eq 24, 3) := by decide +kernel
theorem dX4_lookUp_48 : decode cX4_lookUp 48 = .ok (.aload_n 0, 1) := by decide +kernel
theorem dX4_lookUp_49 : decode cX4_lookUp 49 = .ok (.getfield 47, 3) := by decide +kernel
theorem dX4_lookUp_52 : decode cX4_lookUp 52 = .ok (.aload_n 0, 1) := by decide +kernel
theorem dX4_lookUp_53 : decode cX4_lookUp 53 = .ok (.iload_n 2, 1) := by decide +kernel
theorem dX4_lookUp_54 : decode cX4_lookUp 54 = .ok (.aload_n 0, 1) := by decide +kernel
theorem dX4_lookUp_55 : decode cX4_lookUp 55 = .ok (.getfield 12, 3) := by decide +kernel
theorem dX4_lookUp_58 : decode cX4_lookUp 58 = .ok (.getfield 94, 3) := by decide +kernel
theorem dX4_lookUp_61 : decode cX4_lookUp 61 = .ok (.iload_n 2, 1) := by decide +kernel
theorem dX4_lookUp_62 : decode cX4_lookUp 62 = .ok (.aaload, 1) := by decide +kernel
theorem dX4_lookUp_63 : decode cX4_lookUp 63 = .ok (.invokevirtual 98, 3) := by decide +kernel
theorem dX4_lookUp_66 : decode cX4_lookUp 66 = .ok (.invokevirtual 102, 3) := by decide +kernel
theorem dX4_lookUp_69 : decode cX4_lookUp 69 = .ok (.iinc 2 1, 3) := by decide +kernel
theorem dX4_lookUp_72 : decode cX4_lookUp 72 = .ok (.goto (-38), 3) := by decide +kernel
theorem dX4_lookUp_75 : decode cX4_lookUp 75 = .ok (.iconst 1, 1) := by decide +kernel
theorem dX4_lookUp_76 : decode cX4_lookUp 76 = .ok (.ireturn, 1) := by decide +kernel
theorem dX4_findPossible_0 : decode cX4_findPossible 0 = .ok (.aload_n 0, 1) := by decide +kernel
theorem dX4_findPossible_1 : decode cX4_findPossible 1 = .ok (.getfield 12, 3) := by decide +kernel
theorem dX4_findPossible_4 : decode cX4_findPossible 4 = .ok (.getfield 73, 3) := by decide +kernel
theorem dX4_findPossible_7 : decode cX4_findPossible 7 = .ok (.astore_n 1, 1) := by decide +kernel
theorem dX4_findPossible_8 : decode cX4_findPossible 8 = .ok (.aload_n 0, 1) := by decide +kernel
theorem dX4_findPossible_9 : decode cX4_findPossible 9 = .ok (.getfield 43, 3) := by decide +kernel
theorem dX4_findPossible_12 : decode cX4_findPossible 12 = .ok (.aload_n 1, 1) := by decide +kernel
theorem dX4_findPossible_13 : decode cX4_findPossible 13 = .ok (.getfield 76, 3) := by decide +kernel
theorem dX4_findPossible_16 : decode cX4_findPossible 16 = .ok (.invokevirtual 105, 3) := by decide +kernel
theorem dX4_findPossible_19 : decode cX4_findPossible 19 = .ok (.iconst 0, 1) := by decide +kernel
theorem dX4_findPossible_20 : decode cX4_findPossible 20 = .ok (.istore_n 2, 1) := by decide +kernel
theorem dX4_findPossible_21 : decode cX4_findPossible 21 = .ok (.iload_n 2, 1) := by decide +kernel
theorem dX4_findPossible_22 : decode cX4_findPossible 22 = .ok (.aload_n 1, 1) := by decide +kernel
theorem dX4_findPossible_23 : decode cX4_findPossible 23 = .ok (.getfield 109, 3) := by decide +kernel
theorem dX4_findPossible_26 : decode cX4_findPossible 26 = .ok (.if_icmp .ge 96, 3) := by decide +kernel
theorem dX4_findPossible_29 : decode cX4_findPossible 29 = .ok (.iconst 0, 1) := by decide +kernel
theorem dX4_findPossible_30 : decode cX4_findPossible 30 = .ok (.istore_n 3, 1) := by decide +kernel
theorem dX4_findPossible_31 : decode cX4_findPossible 31 = .ok (.iload_n 3, 1) := by decide +kernel
theorem dX4_findPossible_32 : decode cX4_findPossible 32 = .ok (.aload_n 1, 1) := by decide +kernel
theorem dX4_findPossible_33 : decode cX4_findPossible 33 = .ok (.getfield 112, 3) := by decide +kernel
theorem dX4_findPossible_36 : decode cX4_findPossible 36 = .ok (.iload_n 2, 1) := by decide +kernel
theorem dX4_findPossible_37 : decode cX4_findPossible 37 = .ok (.iaload, 1) := by decide +kernel
theorem dX4_findPossible_38 : decode cX4_findPossible 38 = .ok (.if_icmp .ge 78, 3) := by decide +kernel
theorem dX4_findPossible_41 : decode cX4_findPossible 41 = .ok (.iconst 0, 1) := by decide +kernel
theorem dX4_findPossible_42 : decode cX4_findPossible 42 = .ok (.istore 4, 2) := by decide +kernel
theorem dX4_findPossible_44 : decode cX4_findPossible 44 = .ok (.iload 4, 2) := by decide +kernel
theorem dX4_findPossible_46 : decode cX4_findPossible 46 = .ok (.aload_n 1, 1) := by decide +kernel
theorem dX4_findPossible_47 : decode cX4_findPossible 47 = .ok (.getfield 115, 3) := by decide +kernel
theorem dX4_findPossible_50 : decode cX4_findPossible 50 = .ok (.iload_n 2, 1) := by decide +kernel
theorem dX4_findPossible_51 : decode cX4_findPossible 51 = .ok (.iaload, 1) := by decide +kernel
theorem dX4_findPossible_52 : decode cX4_findPossible 52 = .ok (.if_icmp .ge 58, 3) := by decide +kernel
theorem dX4_findPossible_55 : decode cX4_findPossible 55 = .ok (.aload_n 0, 1) := by decide +kernel
theorem dX4_findPossible_56 : decode cX4_findPossible 56 = .ok (.getfield 12, 3) := by decide +kernel
theorem dX4_findPossible_59 : decode cX4_findPossible 59 = .ok (.iload_n 2, 1) := by decide +kernel
theorem dX4_findPossible_60 : decode cX4_findPossible 60 = .ok (.iload_n 3, 1) := by decide +kernel
theorem dX4_findPossible_61 : decode cX4_findPossible 61 = .ok (.iload 4, 2) := by decide +kernel
theorem dX4_findPossible_63 : decode cX4_findPossible 63 = .ok (.invokevirtual 118, 3) := by decide +kernel
theorem dX4_findPossible_66 : decode cX4_findPossible 66 = .ok (.istore 5, 2) := by decide +kernel
theorem dX4_findPossible_68 : decode cX4_findPossible 68 = .ok (.iload 5, 2) := by decide +kernel
theorem dX4_findPossible_70 : decode cX4_findPossible 70 = .ok (.iconst (-1), 1) := by decide +kernel
theorem dX4_findPossible_71 : decode cX4_findPossible 71 = .ok (.if_icmp .eq 33, 3) := by decide +kernel
theorem dX4_findPossible_74 : decode cX4_findPossible 74 = .ok (.aload_n 0, 1) := by decide +kernel
theorem dX4_findPossible_75 : decode cX4_findPossible 75 = .ok (.getfield 43, 3) := by decide +kernel
theorem dX4_findPossible_78 : decode cX4_findPossible 78 = .ok (.aload_n 1, 1) := by decide +kernel
theorem dX4_findPossible_79 : decode cX4_findPossible 79 = .ok (.aload_n 1, 1) := by decide +kernel
theorem dX4_findPossible_80 : decode cX4_findPossible 80 = .ok (.iload_n 2, 1) := by decide +kernel
theorem dX4_findPossible_81 : decode cX4_findPossible 81 = .ok (.iload_n 3, 1) := by decide +kernel
theorem dX4_findPossible_82 : decode cX4_findPossible 82 = .ok (.iload 4, 2) := by decide +kernel
theorem dX4_findPossible_84 : decode cX4_findPossible 84 = .ok (.invokevirtual 122, 3) := by decide +kernel
theorem dX4_findPossible_87 : decode cX4_findPossible 87 = .ok (.invokevirtual 125, 3) := by decide +kernel
theorem dX4_findPossible_90 : decode cX4_findPossible 90 = .ok (.iload 5, 2) := by decide +kernel
theorem dX4_findPossible_92 : decode cX4_findPossible 92 = .ok (.iconst 1, 1) := by decide +kernel
theorem dX4_findPossible_93 : decode cX4_findPossible 93 = .ok (.if_icmp .ne 7, 3) := by decide +kernel
theorem dX4_findPossible_96 : decode cX4_findPossible 96 = .ok (.iconst 1, 1) := by decide +kernel
theorem dX4_findPossible_97 : decode cX4_findPossible 97 = .ok (.goto 4, 3) := by decide +kernel
theorem dX4_findPossible_100 : decode cX4_findPossible 100 = .ok (.iconst 0, 1) := by decide +kernel
theorem dX4_findPossible_101 : decode cX4_findPossible 101 = .ok (.invokevirtual 129, 3) := by decide +kernel
theorem dX4_findPossible_104 : decode cX4_findPossible 104 = .ok (.iinc 4 1, 3) := by decide +kernel
theorem dX4_findPossible_107 : decode cX4_findPossible 107 = .ok (.goto (-63), 3) := by decide +kernel
theorem dX4_findPossible_110 : decode cX4_findPossible 110 = .ok (.iinc 3 1, 3) := by decide +kernel
theorem dX4_findPossible_113 : decode cX4_findPossible 113 = .ok (.goto (-82), 3) := by decide +kernel
theorem dX4_findPossible_116 : decode cX4_findPossible 116 = .ok (.iinc 2 1, 3) := by decide +kernel
theorem dX4_findPossible_119 : decode cX4_findPossible 119 = .ok (.goto (-98), 3) := by decide +kernel
theorem dX4_findPossible_122 : decode cX4_findPossible 122 = .ok (.return_, 1) := by decide +kernel
theorem dX4_truth_0 : decode cX4_truth 0 = .ok (.aload_n 0, 1) := by decide +kernel
theorem dX4_truth_1 : decode cX4_truth 1 = .ok (.getfield 34, 3) := by decide +kernel
theorem dX4_truth_4 : decode cX4_truth 4 = .ok (.iload_n 1, 1) := by decide +kernel
theorem dX4_truth_5 : decode cX4_truth 5 = .ok (.aaload, 1) := by decide +kernel
theorem dX4_truth_6 : decode cX4_truth 6 = .ok (.astore_n 3, 1) := by decide +kernel
theorem dX4_truth_7 : decode cX4_truth 7 = .ok (.aload_n 2, 1) := by decide +kernel
theorem dX4_truth_8 : decode cX4_truth 8 = .ok (.ifnull 82, 3) := by decide +kernel
theorem dX4_truth_11 : decode cX4_truth 11 = .ok (.aload_n 0, 1) := by decide +kernel
theorem dX4_truth_12 : decode cX4_truth 12 = .ok (.getfield 38, 3) := by decide +kernel
theorem dX4_truth_15 : decode cX4_truth 15 = .ok (.iload_n 1, 1) := by decide +kernel
theorem dX4_truth_16 : decode cX4_truth 16 = .ok (.ishr, 1) := by decide +kernel
theorem dX4_truth_17 : decode cX4_truth 17 = .ok (.iconst 1, 1) := by decide +kernel
theorem dX4_truth_18 : decode cX4_truth 18 = .ok (.iand, 1) := by decide +kernel
theorem dX4_truth_19 : decode cX4_truth 19 = .ok (.ifCond .ne 71, 3) := by decide +kernel
theorem dX4_truth_22 : decode cX4_truth 22 = .ok (.aload_n 3, 1) := by decide +kernel
theorem dX4_truth_23 : decode cX4_truth 23 = .ok (.aload_n 0, 1) := by decide +kernel
theorem dX4_truth_24 : decode cX4_truth 24 = .ok (.getfield 12, 3) := by decide +kernel
theorem dX4_truth_27 : decode cX4_truth 27 = .ok (.getfield 73, 3) := by decide +kernel
theorem dX4_truth_30 : decode cX4_truth 30 = .ok (.getfield 76, 3) := by decide +kernel
theorem dX4_truth_33 : decode cX4_truth 33 = .ok (.invokevirtual 133, 3) := by decide +kernel
theorem dX4_truth_36 : decode cX4_truth 36 = .ok (.iconst 0, 1) := by decide +kernel
theorem dX4_truth_37 : decode cX4_truth 37 = .ok (.istore 4, 2) := by decide +kernel
theorem dX4_truth_39 : decode cX4_truth 39 = .ok (.iload 4, 2) := by decide +kernel
theorem dX4_truth_41 : decode cX4_truth 41 = .ok (.aload_n 3, 1) := by decide +kernel
theorem dX4_truth_42 : decode cX4_truth 42 = .ok (.invokevirtual 136, 3) := by decide +kernel
theorem dX4_truth_45 : decode cX4_truth 45 = .ok (.if_icmp .ge 33, 3) := by decide +kernel
theorem dX4_truth_48 : decode cX4_truth 48 = .ok (.aload_n 3, 1) := by decide +kernel
theorem dX4_truth_49 : decode cX4_truth 49 = .ok (.getfield 139, 3) := by decide +kernel
theorem dX4_truth_52 : decode cX4_truth 52 = .ok (.iload 4, 2) := by decide +kernel
theorem dX4_truth_54 : decode cX4_truth 54 = .ok (.aload_n 0, 1) := by decide +kernel
theorem dX4_truth_55 : decode cX4_truth 55 = .ok (.getfield 21, 3) := by decide +kernel
theorem dX4_truth_58 : decode cX4_truth 58 = .ok (.aload_n 0, 1) := by decide +kernel
theorem dX4_truth_59 : decode cX4_truth 59 = .ok (.getfield 12, 3) := by decide +kernel
theorem dX4_truth_62 : decode cX4_truth 62 = .ok (.getfield 73, 3) := by decide +kernel
theorem dX4_truth_65 : decode cX4_truth 65 = .ok (.aload_n 2, 1) := by decide +kernel
theorem dX4_truth_66 : decode cX4_truth 66 = .ok (.iload 4, 2) := by decide +kernel
theorem dX4_truth_68 : decode cX4_truth 68 = .ok (.invokevirtual 143, 3) := by decide +kernel
theorem dX4_truth_71 : decode cX4_truth 71 = .ok (.lastore, 1) := by decide +kernel
theorem dX4_truth_72 : decode cX4_truth 72 = .ok (.iinc 4 1, 3) := by decide +kernel
theorem dX4_truth_75 : decode cX4_truth 75 = .ok (.goto (-36), 3) := by decide +kernel
theorem dX4_truth_78 : decode cX4_truth 78 = .ok (.aload_n 0, 1) := by decide +kernel
theorem dX4_truth_79 : decode cX4_truth 79 = .ok (.dup, 1) := by decide +kernel
theorem dX4_truth_80 : decode cX4_truth 80 = .ok (.getfield 38, 3) := by decide +kernel
theorem dX4_truth_83 : decode cX4_truth 83 = .ok (.iconst 1, 1) := by decide +kernel
theorem dX4_truth_84 : decode cX4_truth 84 = .ok (.iload_n 1, 1) := by decide +kernel
theorem dX4_truth_85 : decode cX4_truth 85 = .ok (.ishl, 1) := by decide +kernel
theorem dX4_truth_86 : decode cX4_truth 86 = .ok (.ior, 1) := by decide +kernel
theorem dX4_truth_87 : decode cX4_truth 87 = .ok (.putfield 38, 3) := by decide +kernel
theorem dX4_truth_90 : decode cX4_truth 90 = .ok (.aload_n 3, 1) := by decide +kernel
theorem dX4_truth_91 : decode cX4_truth 91 = .ok (.areturn, 1) := by decide +kernel
theorem dX4_countWorlds_0 : decode cX4_countWorlds 0 = .ok (.aload_n 0, 1) := by decide +kernel
theorem dX4_countWorlds_1 : decode cX4_countWorlds 1 = .ok (.invokevirtual 147, 3) := by decide +kernel
theorem dX4_countWorlds_4 : decode cX4_countWorlds 4 = .ok (.ifCond .eq 13, 3) := by decide +kernel
theorem dX4_countWorlds_7 : decode cX4_countWorlds 7 = .ok (.aload_n 0, 1) := by decide +kernel
theorem dX4_countWorlds_8 : decode cX4_countWorlds 8 = .ok (.getfield 47, 3) := by decide +kernel
theorem dX4_countWorlds_11 : decode cX4_countWorlds 11 = .ok (.invokevirtual 150, 3) := by decide +kernel
theorem dX4_countWorlds_14 : decode cX4_countWorlds 14 = .ok (.goto 4, 3) := by decide +kernel
theorem dX4_countWorlds_17 : decode cX4_countWorlds 17 = .ok (.iconst (-1), 1) := by decide +kernel
theorem dX4_countWorlds_18 : decode cX4_countWorlds 18 = .ok (.ireturn, 1) := by decide +kernel
theorem dX4_pickForms_0 : decode cX4_pickForms 0 = .ok (.aload_n 0, 1) := by decide +kernel
theorem dX4_pickForms_1 : decode cX4_pickForms 1 = .ok (.getfield 50, 3) := by decide +kernel
theorem dX4_pickForms_4 : decode cX4_pickForms 4 = .ok (.aload_n 0, 1) := by decide +kernel
theorem dX4_pickForms_5 : decode cX4_pickForms 5 = .ok (.getfield 47, 3) := by decide +kernel
theorem dX4_pickForms_8 : decode cX4_pickForms 8 = .ok (.invokevirtual 86, 3) := by decide +kernel
theorem dX4_pickForms_11 : decode cX4_pickForms 11 = .ok (.aload_n 0, 1) := by decide +kernel
theorem dX4_pickForms_12 : decode cX4_pickForms 12 = .ok (.getfield 50, 3) := by decide +kernel
theorem dX4_pickForms_15 : decode cX4_pickForms 15 = .ok (.aload_n 0, 1) := by decide +kernel
theorem dX4_pickForms_16 : decode cX4_pickForms 16 = .ok (.getfield 28, 3) := by decide +kernel
theorem dX4_pickForms_19 : decode cX4_pickForms 19 = .ok (.aload_n 0, 1) := by decide +kernel
theorem dX4_pickForms_20 : decode cX4_pickForms 20 = .ok (.getfield 12, 3) := by decide +kernel
theorem dX4_pickForms_23 : decode cX4_pickForms 23 = .ok (.getfield 73, 3) := by decide +kernel
theorem dX4_pickForms_26 : decode cX4_pickForms 26 = .ok (.invokevirtual 153, 3) := by decide +kernel
theorem dX4_pickForms_29 : decode cX4_pickForms 29 = .ok (.invokevirtual 102, 3) := by decide +kernel
theorem dX4_pickForms_32 : decode cX4_pickForms 32 = .ok (.return_, 1) := by decide +kernel
theorem dX4_countForms_0 : decode cX4_countForms 0 = .ok (.aload_n 0, 1) := by decide +kernel
theorem dX4_countForms_1 : decode cX4_countForms 1 = .ok (.invokevirtual 147, 3) := by decide +kernel
theorem dX4_countForms_4 : decode cX4_countForms 4 = .ok (.ifCond .ne 5, 3) := by decide +kernel
theorem dX4_countForms_7 : decode cX4_countForms 7 = .ok (.iconst (-1), 1) := by decide +kernel
theorem dX4_countForms_8 : decode cX4_countForms 8 = .ok (.ireturn, 1) := by decide +kernel
theorem dX4_countForms_9 : decode cX4_countForms 9 = .ok (.aload_n 0, 1) := by decide +kernel
theorem dX4_countForms_10 : decode cX4_countForms 10 = .ok (.invokevirtual 157, 3) := by decide +kernel
theorem dX4_countForms_13 : decode cX4_countForms 13 = .ok (.aload_n 0, 1) := by decide +kernel
theorem dX4_countForms_14 : decode cX4_countForms 14 = .ok (.getfield 50, 3) := by decide +kernel
theorem dX4_countForms_17 : decode cX4_countForms 17 = .ok (.invokevirtual 150, 3) := by decide +kernel
theorem dX4_countForms_20 : decode cX4_countForms 20 = .ok (.ireturn, 1) := by decide +kernel
theorem dX4_nthForm_0 : decode cX4_nthForm 0 = .ok (.aload_n 0, 1) := by decide +kernel
theorem dX4_nthForm_1 : decode cX4_nthForm 1 = .ok (.invokevirtual 147, 3) := by decide +kernel
theorem dX4_nthForm_4 : decode cX4_nthForm 4 = .ok (.ifCond .ne 5, 3) := by decide +kernel
theorem dX4_nthForm_7 : decode cX4_nthForm 7 = .ok (.iconst (-1), 1) := by decide +kernel
theorem dX4_nthForm_8 : decode cX4_nthForm 8 = .ok (.ireturn, 1) := by decide +kernel
theorem dX4_nthForm_9 : decode cX4_nthForm 9 = .ok (.aload_n 0, 1) := by decide +kernel
theorem dX4_nthForm_10 : decode cX4_nthForm 10 = .ok (.invokevirtual 157, 3) := by decide +kernel
theorem dX4_nthForm_13 : decode cX4_nthForm 13 = .ok (.aload_n 0, 1) := by decide +kernel
theorem dX4_nthForm_14 : decode cX4_nthForm 14 = .ok (.getfield 50, 3) := by decide +kernel
theorem dX4_nthForm_17 : decode cX4_nthForm 17 = .ok (.iload_n 1, 1) := by decide +kernel
theorem dX4_nthForm_18 : decode cX4_nthForm 18 = .ok (.invokevirtual 160, 3) := by decide +kernel
theorem dX4_nthForm_21 : decode cX4_nthForm 21 = .ok (.ireturn, 1) := by decide +kernel
theorem dX4_leastRow_0 : decode cX4_leastRow 0 = .ok (.aload_n 0, 1) := by decide +kernel
theorem dX4_leastRow_1 : decode cX4_leastRow 1 = .ok (.invokevirtual 79, 3) := by decide +kernel
theorem dX4_leastRow_4 : decode cX4_leastRow 4 = .ok (.ifCond .eq 28, 3) := by decide +kernel
theorem dX4_leastRow_7 : decode cX4_leastRow 7 = .ok (.aload_n 0, 1) := by decide +kernel
theorem dX4_leastRow_8 : decode cX4_leastRow 8 = .ok (.getfield 28, 3) := by decide +kernel
theorem dX4_leastRow_11 : decode cX4_leastRow 11 = .ok (.aload_n 0, 1) := by decide +kernel
theorem dX4_leastRow_12 : decode cX4_leastRow 12 = .ok (.getfield 12, 3) := by decide +kernel
theorem dX4_leastRow_15 : decode cX4_leastRow 15 = .ok (.getfield 73, 3) := by decide +kernel
theorem dX4_leastRow_18 : decode cX4_leastRow 18 = .ok (.aload_n 0, 1) := by decide +kernel
theorem dX4_leastRow_19 : decode cX4_leastRow 19 = .ok (.getfield 12, 3) := by decide +kernel
theorem dX4_leastRow_22 : decode cX4_leastRow 22 = .ok (.getfield 163, 3) := by decide +kernel
theorem dX4_leastRow_25 : decode cX4_leastRow 25 = .ok (.l2i, 1) := by decide +kernel
theorem dX4_leastRow_26 : decode cX4_leastRow 26 = .ok (.invokevirtual 167, 3) := by decide +kernel
theorem dX4_leastRow_29 : decode cX4_leastRow 29 = .ok (.goto 4, 3) := by decide +kernel
theorem dX4_leastRow_32 : decode cX4_leastRow 32 = .ok (.iconst (-1), 1) := by decide +kernel
theorem dX4_leastRow_33 : decode cX4_leastRow 33 = .ok (.ireturn, 1) := by decide +kernel
theorem dX4_fewestApart_0 : decode cX4_fewestApart 0 = .ok (.aload_n 0, 1) := by decide +kernel
theorem dX4_fewestApart_1 : decode cX4_fewestApart 1 = .ok (.invokevirtual 79, 3) := by decide +kernel
theorem dX4_fewestApart_4 : decode cX4_fewestApart 4 = .ok (.ifCond .ne 5, 3) := by decide +kernel
theorem dX4_fewestApart_7 : decode cX4_fewestApart 7 = .ok (.iconst (-1), 1) := by decide +kernel
theorem dX4_fewestApart_8 : decode cX4_fewestApart 8 = .ok (.ireturn, 1) := by decide +kernel
theorem dX4_fewestApart_9 : decode cX4_fewestApart 9 = .ok (.aload_n 0, 1) := by decide +kernel
theorem dX4_fewestApart_10 : decode cX4_fewestApart 10 = .ok (.getfield 28, 3) := by decide +kernel
theorem dX4_fewestApart_13 : decode cX4_fewestApart 13 = .ok (.aload_n 0, 1) := by decide +kernel
theorem dX4_fewestApart_14 : decode cX4_fewestApart 14 = .ok (.getfield 12, 3) := by decide +kernel
theorem dX4_fewestApart_17 : decode cX4_fewestApart 17 = .ok (.getfield 73, 3) := by decide +kernel
theorem dX4_fewestApart_20 : decode cX4_fewestApart 20 = .ok (.aload_n 0, 1) := by decide +kernel
theorem dX4_fewestApart_21 : decode cX4_fewestApart 21 = .ok (.getfield 12, 3) := by decide +kernel
theorem dX4_fewestApart_24 : decode cX4_fewestApart 24 = .ok (.getfield 163, 3) := by decide +kernel
theorem dX4_fewestApart_27 : decode cX4_fewestApart 27 = .ok (.l2i, 1) := by decide +kernel
theorem dX4_fewestApart_28 : decode cX4_fewestApart 28 = .ok (.lload_n 1, 1) := by decide +kernel
theorem dX4_fewestApart_29 : decode cX4_fewestApart 29 = .ok (.l2i, 1) := by decide +kernel
theorem dX4_fewestApart_30 : decode cX4_fewestApart 30 = .ok (.invokevirtual 171, 3) := by decide +kernel
theorem dX4_fewestApart_33 : decode cX4_fewestApart 33 = .ok (.ireturn, 1) := by decide +kernel
theorem dX4_leastSize_0 : decode cX4_leastSize 0 = .ok (.aload_n 0, 1) := by decide +kernel
theorem dX4_leastSize_1 : decode cX4_leastSize 1 = .ok (.getfield 12, 3) := by decide +kernel
theorem dX4_leastSize_4 : decode cX4_leastSize 4 = .ok (.invokevirtual 90, 3) := by decide +kernel
theorem dX4_leastSize_7 : decode cX4_leastSize 7 = .ok (.istore_n 2, 1) := by decide +kernel
theorem dX4_leastSize_8 : decode cX4_leastSize 8 = .ok (.aload_n 0, 1) := by decide +kernel
theorem dX4_leastSize_9 : decode cX4_leastSize 9 = .ok (.getfield 64, 3) := by decide +kernel
theorem dX4_leastSize_12 : decode cX4_leastSize 12 = .ok (.iload_n 2, 1) := by decide +kernel
theorem dX4_leastSize_13 : decode cX4_leastSize 13 = .ok (.if_icmp .eq 13, 3) := by decide +kernel
theorem dX4_leastSize_16 : decode cX4_leastSize 16 = .ok (.aload_n 0, 1) := by decide +kernel
theorem dX4_leastSize_17 : decode cX4_leastSize 17 = .ok (.iload_n 2, 1) := by decide +kernel
theorem dX4_leastSize_18 : decode cX4_leastSize 18 = .ok (.invokevirtual 175, 3) := by decide +kernel
theorem dX4_leastSize_21 : decode cX4_leastSize 21 = .ok (.aload_n 0, 1) := by decide +kernel
theorem dX4_leastSize_22 : decode cX4_leastSize 22 = .ok (.iload_n 2, 1) := by decide +kernel
theorem dX4_leastSize_23 : decode cX4_leastSize 23 = .ok (.putfield 64, 3) := by decide +kernel
theorem dX4_leastSize_26 : decode cX4_leastSize 26 = .ok (.aload_n 0, 1) := by decide +kernel
theorem dX4_leastSize_27 : decode cX4_leastSize 27 = .ok (.getfield 60, 3) := by decide +kernel
theorem dX4_leastSize_30 : decode cX4_leastSize 30 = .ok (.iload_n 1, 1) := by decide +kernel
theorem dX4_leastSize_31 : decode cX4_leastSize 31 = .ok (.iaload, 1) := by decide +kernel
theorem dX4_leastSize_32 : decode cX4_leastSize 32 = .ok (.ireturn, 1) := by decide +kernel
theorem dX4_findLeastSizes_0 : decode cX4_findLeastSizes 0 = .ok (.aload_n 0, 1) := by decide +kernel
theorem dX4_findLeastSizes_1 : decode cX4_findLeastSizes 1 = .ok (.getfield 56, 3) := by decide +kernel
theorem dX4_findLeastSizes_4 : decode cX4_findLeastSizes 4 = .ok (.aload_n 0, 1) := by decide +kernel
theorem dX4_findLeastSizes_5 : decode cX4_findLeastSizes 5 = .ok (.getfield 12, 3) := by decide +kernel
theorem dX4_findLeastSizes_8 : decode cX4_findLeastSizes 8 = .ok (.getfield 73, 3) := by decide +kernel
theorem dX4_findLeastSizes_11 : decode cX4_findLeastSizes 11 = .ok (.invokevirtual 178, 3) := by decide +kernel
theorem dX4_findLeastSizes_14 : decode cX4_findLeastSizes 14 = .ok (.iconst 3, 1) := by decide +kernel
theorem dX4_findLeastSizes_15 : decode cX4_findLeastSizes 15 = .ok (.istore_n 2, 1) := by decide +kernel
theorem dX4_findLeastSizes_16 : decode cX4_findLeastSizes 16 = .ok (.iload_n 2, 1) := by decide +kernel
theorem dX4_findLeastSizes_17 : decode cX4_findLeastSizes 17 = .ok (.bipush 9, 2) := by decide +kernel
theorem dX4_findLeastSizes_19 : decode cX4_findLeastSizes 19 = .ok (.if_icmp .gt 72, 3) := by decide +kernel
theorem dX4_findLeastSizes_22 : decode cX4_findLeastSizes 22 = .ok (.iconst 1, 1) := by decide +kernel
theorem dX4_findLeastSizes_23 : decode cX4_findLeastSizes 23 = .ok (.istore_n 3, 1) := by decide +kernel
theorem dX4_findLeastSizes_24 : decode cX4_findLeastSizes 24 = .ok (.iload_n 3, 1) := by decide +kernel
theorem dX4_findLeastSizes_25 : decode cX4_findLeastSizes 25 = .ok (.iconst 3, 1) := by decide +kernel
theorem dX4_findLeastSizes_26 : decode cX4_findLeastSizes 26 = .ok (.if_icmp .gt 59, 3) := by decide +kernel
theorem dX4_findLeastSizes_29 : decode cX4_findLeastSizes 29 = .ok (.iconst 1, 1) := by decide +kernel
theorem dX4_findLeastSizes_30 : decode cX4_findLeastSizes 30 = .ok (.istore 4, 2) := by decide +kernel
theorem dX4_findLeastSizes_32 : decode cX4_findLeastSizes 32 = .ok (.iload 4, 2) := by decide +kernel
theorem dX4_findLeastSizes_34 : decode cX4_findLeastSizes 34 = .ok (.iconst 3, 1) := by decide +kernel
theorem dX4_findLeastSizes_35 : decode cX4_findLeastSizes 35 = .ok (.if_icmp .gt 44, 3) := by decide +kernel
theorem dX4_findLeastSizes_38 : decode cX4_findLeastSizes 38 = .ok (.aload_n 0, 1) := by decide +kernel
theorem dX4_findLeastSizes_39 : decode cX4_findLeastSizes 39 = .ok (.iload_n 3, 1) := by decide +kernel
theorem dX4_findLeastSizes_40 : decode cX4_findLeastSizes 40 = .ok (.iload 4, 2) := by decide +kernel
theorem dX4_findLeastSizes_42 : decode cX4_findLeastSizes 42 = .ok (.iload_n 2, 1) := by decide +kernel
theorem dX4_findLeastSizes_43 : decode cX4_findLeastSizes 43 = .ok (.iload_n 3, 1) := by decide +kernel
theorem dX4_findLeastSizes_44 : decode cX4_findLeastSizes 44 = .ok (.isub, 1) := by decide +kernel
theorem dX4_findLeastSizes_45 : decode cX4_findLeastSizes 45 = .ok (.iload 4, 2) := by decide +kernel
theorem dX4_findLeastSizes_47 : decode cX4_findLeastSizes 47 = .ok (.isub, 1) := by decide +kernel
theorem dX4_findLeastSizes_48 : decode cX4_findLeastSizes 48 = .ok (.iload_n 1, 1) := by decide +kernel
theorem dX4_findLeastSizes_49 : decode cX4_findLeastSizes 49 = .ok (.invokevirtual 181, 3) := by decide +kernel
theorem dX4_findLeastSizes_52 : decode cX4_findLeastSizes 52 = .ok (.ifCond .eq 21, 3) := by decide +kernel
theorem dX4_findLeastSizes_55 : decode cX4_findLeastSizes 55 = .ok (.aload_n 0, 1) := by decide +kernel
theorem dX4_findLeastSizes_56 : decode cX4_findLeastSizes 56 = .ok (.getfield 56, 3) := by decide +kernel
theorem dX4_findLeastSizes_59 : decode cX4_findLeastSizes 59 = .ok (.getfield 185, 3) := by decide +kernel
theorem dX4_findLeastSizes_62 : decode cX4_findLeastSizes 62 = .ok (.iconst 0, 1) := by decide +kernel
theorem dX4_findLeastSizes_63 : decode cX4_findLeastSizes 63 = .ok (.aload_n 0, 1) := by decide +kernel
theorem dX4_findLeastSizes_64 : decode cX4_findLeastSizes 64 = .ok (.getfield 60, 3) := by decide +kernel
theorem dX4_findLeastSizes_67 : decode cX4_findLeastSizes 67 = .ok (.iconst 0, 1) := by decide +kernel
theorem dX4_findLeastSizes_68 : decode cX4_findLeastSizes 68 = .ok (.iconst 3, 1) := by decide +kernel
theorem dX4_findLeastSizes_69 : decode cX4_findLeastSizes 69 = .ok (.invokestatic 188, 3) := by decide +kernel
theorem dX4_findLeastSizes_72 : decode cX4_findLeastSizes 72 = .ok (.return_, 1) := by decide +kernel
theorem dX4_findLeastSizes_73 : decode cX4_findLeastSizes 73 = .ok (.iinc 4 1, 3) := by decide +kernel
theorem dX4_findLeastSizes_76 : decode cX4_findLeastSizes 76 = .ok (.goto (-44), 3) := by decide +kernel
theorem dX4_findLeastSizes_79 : decode cX4_findLeastSizes 79 = .ok (.iinc 3 1, 3) := by decide +kernel
theorem dX4_findLeastSizes_82 : decode cX4_findLeastSizes 82 = .ok (.goto (-58), 3) := by decide +kernel
theorem dX4_findLeastSizes_85 : decode cX4_findLeastSizes 85 = .ok (.iinc 2 1, 3) := by decide +kernel
theorem dX4_findLeastSizes_88 : decode cX4_findLeastSizes 88 = .ok (.goto (-72), 3) := by decide +kernel
theorem dX4_findLeastSizes_91 : decode cX4_findLeastSizes 91 = .ok (.iconst 0, 1) := by decide +kernel
theorem dX4_findLeastSizes_92 : decode cX4_findLeastSizes 92 = .ok (.istore_n 2, 1) := by decide +kernel
theorem dX4_findLeastSizes_93 : decode cX4_findLeastSizes 93 = .ok (.iload_n 2, 1) := by decide +kernel
theorem dX4_findLeastSizes_94 : decode cX4_findLeastSizes 94 = .ok (.iconst 3, 1) := by decide +kernel
theorem dX4_findLeastSizes_95 : decode cX4_findLeastSizes 95 = .ok (.if_icmp .ge 16, 3) := by decide +kernel
theorem dX4_findLeastSizes_98 : decode cX4_findLeastSizes 98 = .ok (.aload_n 0, 1) := by decide +kernel
theorem dX4_findLeastSizes_99 : decode cX4_findLeastSizes 99 = .ok (.getfield 60, 3) := by decide +kernel
theorem dX4_findLeastSizes_102 : decode cX4_findLeastSizes 102 = .ok (.iload_n 2, 1) := by decide +kernel
theorem dX4_findLeastSizes_103 : decode cX4_findLeastSizes 103 = .ok (.iconst (-1), 1) := by decide +kernel
theorem dX4_findLeastSizes_104 : decode cX4_findLeastSizes 104 = .ok (.iastore, 1) := by decide +kernel
theorem dX4_findLeastSizes_105 : decode cX4_findLeastSizes 105 = .ok (.iinc 2 1, 3) := by decide +kernel
theorem dX4_findLeastSizes_108 : decode cX4_findLeastSizes 108 = .ok (.goto (-15), 3) := by decide +kernel
theorem dX4_findLeastSizes_111 : decode cX4_findLeastSizes 111 = .ok (.return_, 1) := by decide +kernel
theorem dX4_fits_0 : decode cX4_fits 0 = .ok (.iload_n 3, 1) := by decide +kernel
theorem dX4_fits_1 : decode cX4_fits 1 = .ok (.iconst 1, 1) := by decide +kernel
theorem dX4_fits_2 : decode cX4_fits 2 = .ok (.if_icmp .lt 8, 3) := by decide +kernel
theorem dX4_fits_5 : decode cX4_fits 5 = .ok (.iload_n 3, 1) := by decide +kernel
theorem dX4_fits_6 : decode cX4_fits 6 = .ok (.iconst 3, 1) := by decide +kernel
theorem dX4_fits_7 : decode cX4_fits 7 = .ok (.if_icmp .le 5, 3) := by decide +kernel
theorem dX4_fits_10 : decode cX4_fits 10 = .ok (.iconst 0, 1) := by decide +kernel
theorem dX4_fits_11 : decode cX4_fits 11 = .ok (.ireturn, 1) := by decide +kernel
theorem dX4_fits_12 : decode cX4_fits 12 = .ok (.aload_n 0, 1) := by decide +kernel
theorem dX4_fits_13 : decode cX4_fits 13 = .ok (.getfield 56, 3) := by decide +kernel
theorem dX4_fits_16 : decode cX4_fits 16 = .ok (.iconst 0, 1) := by decide +kernel
theorem dX4_fits_17 : decode cX4_fits 17 = .ok (.iload_n 1, 1) := by decide +kernel
theorem dX4_fits_18 : decode cX4_fits 18 = .ok (.invokevirtual 194, 3) := by decide +kernel
theorem dX4_fits_21 : decode cX4_fits 21 = .ok (.pop, 1) := by decide +kernel
theorem dX4_fits_22 : decode cX4_fits 22 = .ok (.aload_n 0, 1) := by decide +kernel
theorem dX4_fits_23 : decode cX4_fits 23 = .ok (.getfield 56, 3) := by decide +kernel
theorem dX4_fits_26 : decode cX4_fits 26 = .ok (.iconst 1, 1) := by decide +kernel
theorem dX4_fits_27 : decode cX4_fits 27 = .ok (.iload_n 2, 1) := by decide +kernel
theorem dX4_fits_28 : decode cX4_fits 28 = .ok (.invokevirtual 194, 3) := by decide +kernel
theorem dX4_fits_31 : decode cX4_fits 31 = .ok (.pop, 1) := by decide +kernel
theorem dX4_fits_32 : decode cX4_fits 32 = .ok (.aload_n 0, 1) := by decide +kernel
theorem dX4_fits_33 : decode cX4_fits 33 = .ok (.getfield 56, 3) := by decide +kernel
theorem dX4_fits_36 : decode cX4_fits 36 = .ok (.iconst 2, 1) := by decide +kernel
theorem dX4_fits_37 : decode cX4_fits 37 = .ok (.iload_n 3, 1) := by decide +kernel
theorem dX4_fits_38 : decode cX4_fits 38 = .ok (.invokevirtual 194, 3) := by decide +kernel
theorem dX4_fits_41 : decode cX4_fits 41 = .ok (.pop, 1) := by decide +kernel
theorem dX4_fits_42 : decode cX4_fits 42 = .ok (.aload_n 0, 1) := by decide +kernel
theorem dX4_fits_43 : decode cX4_fits 43 = .ok (.getfield 56, 3) := by decide +kernel
theorem dX4_fits_46 : decode cX4_fits 46 = .ok (.getfield 76, 3) := by decide +kernel
theorem dX4_fits_49 : decode cX4_fits 49 = .ok (.bipush 12, 2) := by decide +kernel
theorem dX4_fits_51 : decode cX4_fits 51 = .ok (.if_icmp .le 5, 3) := by decide +kernel
theorem dX4_fits_54 : decode cX4_fits 54 = .ok (.iconst 0, 1) := by decide +kernel
theorem dX4_fits_55 : decode cX4_fits 55 = .ok (.ireturn, 1) := by decide +kernel
theorem dX4_fits_56 : decode cX4_fits 56 = .ok (.aload_n 0, 1) := by decide +kernel
theorem dX4_fits_57 : decode cX4_fits 57 = .ok (.getfield 50, 3) := by decide +kernel
theorem dX4_fits_60 : decode cX4_fits 60 = .ok (.aload_n 0, 1) := by decide +kernel
theorem dX4_fits_61 : decode cX4_fits 61 = .ok (.getfield 56, 3) := by decide +kernel
theorem dX4_fits_64 : decode cX4_fits 64 = .ok (.getfield 76, 3) := by decide +kernel
theorem dX4_fits_67 : decode cX4_fits 67 = .ok (.invokevirtual 105, 3) := by decide +kernel
theorem dX4_fits_70 : decode cX4_fits 70 = .ok (.iconst 0, 1) := by decide +kernel
theorem dX4_fits_71 : decode cX4_fits 71 = .ok (.istore 5, 2) := by decide +kernel
theorem dX4_fits_73 : decode cX4_fits 73 = .ok (.iload 5, 2) := by decide +kernel
theorem dX4_fits_75 : decode cX4_fits 75 = .ok (.aload_n 0, 1) := by decide +kernel
theorem dX4_fits_76 : decode cX4_fits 76 = .ok (.getfield 50, 3) := by decide +kernel
theorem dX4_fits_79 : decode cX4_fits 79 = .ok (.invokevirtual 136, 3) := by decide +kernel
theorem dX4_fits_82 : decode cX4_fits 82 = .ok (.if_icmp .ge 100, 3) := by decide +kernel
theorem dX4_fits_85 : decode cX4_fits 85 = .ok (.aload_n 0, 1) := by decide +kernel
theorem dX4_fits_86 : decode cX4_fits 86 = .ok (.getfield 50, 3) := by decide +kernel
theorem dX4_fits_89 : decode cX4_fits 89 = .ok (.getfield 139, 3) := by decide +kernel
theorem dX4_fits_92 : decode cX4_fits 92 = .ok (.iload 5, 2) := by decide +kernel
theorem dX4_fits_94 : decode cX4_fits 94 = .ok (.laload, 1) := by decide +kernel
theorem dX4_fits_95 : decode cX4_fits 95 = .ok (.lstore 6, 2) := by decide +kernel
theorem dX4_fits_97 : decode cX4_fits 97 = .ok (.iconst 0, 1) := by decide +kernel
theorem dX4_fits_98 : decode cX4_fits 98 = .ok (.istore 8, 2) := by decide +kernel
theorem dX4_fits_100 : decode cX4_fits 100 = .ok (.iload 8, 2) := by decide +kernel
theorem dX4_fits_102 : decode cX4_fits 102 = .ok (.bipush 8, 2) := by decide +kernel
theorem dX4_fits_104 : decode cX4_fits 104 = .ok (.if_icmp .ge 63, 3) := by decide +kernel
theorem dX4_fits_107 : decode cX4_fits 107 = .ok (.lload 6, 2) := by decide +kernel
theorem dX4_fits_109 : decode cX4_fits 109 = .ok (.lconst 0, 1) := by decide +kernel
theorem dX4_fits_110 : decode cX4_fits 110 = .ok (.lcmp, 1) := by decide +kernel
theorem dX4_fits_111 : decode cX4_fits 111 = .ok (.ifCond .eq 56, 3) := by decide +kernel
theorem dX4_fits_114 : decode cX4_fits 114 = .ok (.aload_n 0, 1) := by decide +kernel
theorem dX4_fits_115 : decode cX4_fits 115 = .ok (.getfield 12, 3) := by decide +kernel
theorem dX4_fits_118 : decode cX4_fits 118 = .ok (.getfield 94, 3) := by decide +kernel
theorem dX4_fits_121 : decode cX4_fits 121 = .ok (.iload 8, 2) := by decide +kernel
theorem dX4_fits_123 : decode cX4_fits 123 = .ok (.aaload, 1) := by decide +kernel
theorem dX4_fits_124 : decode cX4_fits 124 = .ok (.astore 9, 2) := by decide +kernel
theorem dX4_fits_126 : decode cX4_fits 126 = .ok (.iload 4, 2) := by decide +kernel
theorem dX4_fits_128 : decode cX4_fits 128 = .ok (.iload 8, 2) := by decide +kernel
theorem dX4_fits_130 : decode cX4_fits 130 = .ok (.ishr, 1) := by decide +kernel
theorem dX4_fits_131 : decode cX4_fits 131 = .ok (.iconst 1, 1) := by decide +kernel
theorem dX4_fits_132 : decode cX4_fits 132 = .ok (.iand, 1) := by decide +kernel
theorem dX4_fits_133 : decode cX4_fits 133 = .ok (.ifCond .eq 28, 3) := by decide +kernel
theorem dX4_fits_136 : decode cX4_fits 136 = .ok (.aload 9, 2) := by decide +kernel
theorem dX4_fits_138 : decode cX4_fits 138 = .ok (.ifnull 23, 3) := by decide +kernel
theorem dX4_fits_141 : decode cX4_fits 141 = .ok (.lload 6, 2) := by decide +kernel
theorem dX4_fits_143 : decode cX4_fits 143 = .ok (.aload_n 0, 1) := by decide +kernel
theorem dX4_fits_144 : decode cX4_fits 144 = .ok (.getfield 21, 3) := by decide +kernel
theorem dX4_fits_147 : decode cX4_fits 147 = .ok (.aload_n 0, 1) := by decide +kernel
theorem dX4_fits_148 : decode cX4_fits 148 = .ok (.getfield 56, 3) := by decide +kernel
theorem dX4_fits_151 : decode cX4_fits 151 = .ok (.aload 9, 2) := by decide +kernel
theorem dX4_fits_153 : decode cX4_fits 153 = .ok (.iload 5, 2) := by decide +kernel
theorem dX4_fits_155 : decode cX4_fits 155 = .ok (.invokevirtual 143, 3) := by decide +kernel
theorem dX4_fits_158 : decode cX4_fits 158 = .ok (.land, 1) := by decide +kernel
theorem dX4_fits_159 : decode cX4_fits 159 = .ok (.lstore 6, 2) := by decide +kernel
theorem dX4_fits_161 : decode cX4_fits 161 = .ok (.iinc 8 1, 3) := by decide +kernel
theorem dX4_fits_164 : decode cX4_fits 164 = .ok (.goto (-64), 3) := by decide +kernel
theorem dX4_fits_167 : decode cX4_fits 167 = .ok (.lload 6, 2) := by decide +kernel
theorem dX4_fits_169 : decode cX4_fits 169 = .ok (.lconst 0, 1) := by decide +kernel
theorem dX4_fits_170 : decode cX4_fits 170 = .ok (.lcmp, 1) := by decide +kernel
theorem dX4_fits_171 : decode cX4_fits 171 = .ok (.ifCond .eq 5, 3) := by decide +kernel
theorem dX4_fits_174 : decode cX4_fits 174 = .ok (.iconst 1, 1) := by decide +kernel
theorem dX4_fits_175 : decode cX4_fits 175 = .ok (.ireturn, 1) := by decide +kernel
theorem dX4_fits_176 : decode cX4_fits 176 = .ok (.iinc 5 1, 3) := by decide +kernel
theorem dX4_fits_179 : decode cX4_fits 179 = .ok (.goto (-106), 3) := by decide +kernel
theorem dX4_fits_182 : decode cX4_fits 182 = .ok (.iconst 0, 1) := by decide +kernel
theorem dX4_fits_183 : decode cX4_fits 183 = .ok (.ireturn, 1) := by decide +kernel
theorem dX4_coreStories_0 : decode cX4_coreStories 0 = .ok (.aload_n 0, 1) := by decide +kernel
theorem dX4_coreStories_1 : decode cX4_coreStories 1 = .ok (.invokevirtual 147, 3) := by decide +kernel
theorem dX4_coreStories_4 : decode cX4_coreStories 4 = .ok (.ifCond .eq 24, 3) := by decide +kernel
theorem dX4_coreStories_7 : decode cX4_coreStories 7 = .ok (.aload_n 0, 1) := by decide +kernel
theorem dX4_coreStories_8 : decode cX4_coreStories 8 = .ok (.getfield 47, 3) := by decide +kernel
theorem dX4_coreStories_11 : decode cX4_coreStories 11 = .ok (.invokevirtual 198, 3) := by decide +kernel
theorem dX4_coreStories_14 : decode cX4_coreStories 14 = .ok (.ifCond .eq 14, 3) := by decide +kernel
theorem dX4_coreStories_17 : decode cX4_coreStories 17 = .ok (.aload_n 0, 1) := by decide +kernel
theorem dX4_coreStories_18 : decode cX4_coreStories 18 = .ok (.aload_n 0, 1) := by decide +kernel
theorem dX4_coreStories_19 : decode cX4_coreStories 19 = .ok (.getfield 43, 3) := by decide +kernel
theorem dX4_coreStories_22 : decode cX4_coreStories 22 = .ok (.invokevirtual 201, 3) := by decide +kernel
theorem dX4_coreStories_25 : decode cX4_coreStories 25 = .ok (.goto 4, 3) := by decide +kernel
theorem dX4_coreStories_28 : decode cX4_coreStories 28 = .ok (.iconst 0, 1) := by decide +kernel
theorem dX4_coreStories_29 : decode cX4_coreStories 29 = .ok (.ireturn, 1) := by decide +kernel
theorem dX4_sureness_0 : decode cX4_sureness 0 = .ok (.iload_n 1, 1) := by decide +kernel
theorem dX4_sureness_1 : decode cX4_sureness 1 = .ok (.iconst (-1), 1) := by decide +kernel
theorem dX4_sureness_2 : decode cX4_sureness 2 = .ok (.if_icmp .eq 20, 3) := by decide +kernel
theorem dX4_sureness_5 : decode cX4_sureness 5 = .ok (.aload_n 0, 1) := by decide +kernel
theorem dX4_sureness_6 : decode cX4_sureness 6 = .ok (.invokevirtual 147, 3) := by decide +kernel
theorem dX4_sureness_9 : decode cX4_sureness 9 = .ok (.ifCond .eq 13, 3) := by decide +kernel
theorem dX4_sureness_12 : decode cX4_sureness 12 = .ok (.aload_n 0, 1) := by decide +kernel
theorem dX4_sureness_13 : decode cX4_sureness 13 = .ok (.getfield 47, 3) := by decide +kernel
theorem dX4_sureness_16 : decode cX4_sureness 16 = .ok (.invokevirtual 198, 3) := by decide +kernel
theorem dX4_sureness_19 : decode cX4_sureness 19 = .ok (.ifCond .eq 5, 3) := by decide +kernel
theorem dX4_sureness_22 : decode cX4_sureness 22 = .ok (.iconst (-1), 1) := by decide +kernel
theorem dX4_sureness_23 : decode cX4_sureness 23 = .ok (.ireturn, 1) := by decide +kernel
theorem dX4_sureness_24 : decode cX4_sureness 24 = .ok (.aload_n 0, 1) := by decide +kernel
theorem dX4_sureness_25 : decode cX4_sureness 25 = .ok (.getfield 47, 3) := by decide +kernel
theorem dX4_sureness_28 : decode cX4_sureness 28 = .ok (.aload_n 0, 1) := by decide +kernel
theorem dX4_sureness_29 : decode cX4_sureness 29 = .ok (.getfield 12, 3) := by decide +kernel
theorem dX4_sureness_32 : decode cX4_sureness 32 = .ok (.getfield 73, 3) := by decide +kernel
theorem dX4_sureness_35 : decode cX4_sureness 35 = .ok (.iload_n 1, 1) := by decide +kernel
theorem dX4_sureness_36 : decode cX4_sureness 36 = .ok (.invokevirtual 125, 3) := by decide +kernel
theorem dX4_sureness_39 : decode cX4_sureness 39 = .ok (.invokevirtual 205, 3) := by decide +kernel
theorem dX4_sureness_42 : decode cX4_sureness 42 = .ok (.istore_n 2, 1) := by decide +kernel
theorem dX4_sureness_43 : decode cX4_sureness 43 = .ok (.iload_n 2, 1) := by decide +kernel
theorem dX4_sureness_44 : decode cX4_sureness 44 = .ok (.ifCond .ne 5, 3) := by decide +kernel
theorem dX4_sureness_47 : decode cX4_sureness 47 = .ok (.iconst 0, 1) := by decide +kernel
theorem dX4_sureness_48 : decode cX4_sureness 48 = .ok (.ireturn, 1) := by decide +kernel
theorem dX4_sureness_49 : decode cX4_sureness 49 = .ok (.iload_n 2, 1) := by decide +kernel
theorem dX4_sureness_50 : decode cX4_sureness 50 = .ok (.aload_n 0, 1) := by decide +kernel
theorem dX4_sureness_51 : decode cX4_sureness 51 = .ok (.getfield 47, 3) := by decide +kernel
theorem dX4_sureness_54 : decode cX4_sureness 54 = .ok (.invokevirtual 150, 3) := by decide +kernel
theorem dX4_sureness_57 : decode cX4_sureness 57 = .ok (.if_icmp .ne 7, 3) := by decide +kernel
theorem dX4_sureness_60 : decode cX4_sureness 60 = .ok (.iconst 1, 1) := by decide +kernel
theorem dX4_sureness_61 : decode cX4_sureness 61 = .ok (.goto 4, 3) := by decide +kernel
theorem dX4_sureness_64 : decode cX4_sureness 64 = .ok (.iconst (-1), 1) := by decide +kernel
theorem dX4_sureness_65 : decode cX4_sureness 65 = .ok (.ireturn, 1) := by decide +kernel
theorem dX4_causeStories_0 : decode cX4_causeStories 0 = .ok (.aload_n 0, 1) := by decide +kernel
theorem dX4_causeStories_1 : decode cX4_causeStories 1 = .ok (.getfield 50, 3) := by decide +kernel
theorem dX4_causeStories_4 : decode cX4_causeStories 4 = .ok (.aload_n 0, 1) := by decide +kernel
theorem dX4_causeStories_5 : decode cX4_causeStories 5 = .ok (.getfield 43, 3) := by decide +kernel
theorem dX4_causeStories_8 : decode cX4_causeStories 8 = .ok (.invokevirtual 86, 3) := by decide +kernel
theorem dX4_causeStories_11 : decode cX4_causeStories 11 = .ok (.aload_n 0, 1) := by decide +kernel
theorem dX4_causeStories_12 : decode cX4_causeStories 12 = .ok (.getfield 50, 3) := by decide +kernel
theorem dX4_causeStories_15 : decode cX4_causeStories 15 = .ok (.aload_n 0, 1) := by decide +kernel
theorem dX4_causeStories_16 : decode cX4_causeStories 16 = .ok (.getfield 12, 3) := by decide +kernel
theorem dX4_causeStories_19 : decode cX4_causeStories 19 = .ok (.getfield 73, 3) := by decide +kernel
theorem dX4_causeStories_22 : decode cX4_causeStories 22 = .ok (.iload_n 1, 1) := by decide +kernel
theorem dX4_causeStories_23 : decode cX4_causeStories 23 = .ok (.invokevirtual 125, 3) := by decide +kernel
theorem dX4_causeStories_26 : decode cX4_causeStories 26 = .ok (.iload_n 2, 1) := by decide +kernel
theorem dX4_causeStories_27 : decode cX4_causeStories 27 = .ok (.ifCond .ne 7, 3) := by decide +kernel
theorem dX4_causeStories_30 : decode cX4_causeStories 30 = .ok (.iconst 1, 1) := by decide +kernel
theorem dX4_causeStories_31 : decode cX4_causeStories 31 = .ok (.goto 4, 3) := by decide +kernel
theorem dX4_causeStories_34 : decode cX4_causeStories 34 = .ok (.iconst 0, 1) := by decide +kernel
theorem dX4_causeStories_35 : decode cX4_causeStories 35 = .ok (.invokevirtual 129, 3) := by decide +kernel
theorem dX4_causeStories_38 : decode cX4_causeStories 38 = .ok (.aload_n 0, 1) := by decide +kernel
theorem dX4_causeStories_39 : decode cX4_causeStories 39 = .ok (.aload_n 0, 1) := by decide +kernel
theorem dX4_causeStories_40 : decode cX4_causeStories 40 = .ok (.getfield 50, 3) := by decide +kernel
theorem dX4_causeStories_43 : decode cX4_causeStories 43 = .ok (.invokevirtual 201, 3) := by decide +kernel
theorem dX4_causeStories_46 : decode cX4_causeStories 46 = .ok (.ireturn, 1) := by decide +kernel
theorem dX4_fewestAgainst_0 : decode cX4_fewestAgainst 0 = .ok (.aload_n 0, 1) := by decide +kernel
theorem dX4_fewestAgainst_1 : decode cX4_fewestAgainst 1 = .ok (.getfield 12, 3) := by decide +kernel
theorem dX4_fewestAgainst_4 : decode cX4_fewestAgainst 4 = .ok (.invokevirtual 90, 3) := by decide +kernel
theorem dX4_fewestAgainst_7 : decode cX4_fewestAgainst 7 = .ok (.istore_n 2, 1) := by decide +kernel
theorem dX4_fewestAgainst_8 : decode cX4_fewestAgainst 8 = .ok (.iload_n 2, 1) := by decide +kernel
theorem dX4_fewestAgainst_9 : decode cX4_fewestAgainst 9 = .ok (.istore_n 3, 1) := by decide +kernel
theorem dX4_fewestAgainst_10 : decode cX4_fewestAgainst 10 = .ok (.iconst 0, 1) := by decide +kernel
theorem dX4_fewestAgainst_11 : decode cX4_fewestAgainst 11 = .ok (.istore 4, 2) := by decide +kernel
theorem dX4_fewestAgainst_13 : decode cX4_fewestAgainst 13 = .ok (.iload 4, 2) := by decide +kernel
theorem dX4_fewestAgainst_15 : decode cX4_fewestAgainst 15 = .ok (.sipush 256, 3) := by decide +kernel
theorem dX4_fewestAgainst_18 : decode cX4_fewestAgainst 18 = .ok (.if_icmp .ge 52, 3) := by decide +kernel
theorem dX4_fewestAgainst_21 : decode cX4_fewestAgainst 21 = .ok (.iload 4, 2) := by decide +kernel
theorem dX4_fewestAgainst_23 : decode cX4_fewestAgainst 23 = .ok (.iload_n 2, 1) := by decide +kernel
theorem dX4_fewestAgainst_24 : decode cX4_fewestAgainst 24 = .ok (.iconst (-1), 1) := by decide +kernel
theorem dX4_fewestAgainst_25 : decode cX4_fewestAgainst 25 = .ok (.ixor, 1) := by decide +kernel
theorem dX4_fewestAgainst_26 : decode cX4_fewestAgainst 26 = .ok (.iand, 1) := by decide +kernel
theorem dX4_fewestAgainst_27 : decode cX4_fewestAgainst 27 = .ok (.ifCond .ne 16, 3) := by decide +kernel
theorem dX4_fewestAgainst_30 : decode cX4_fewestAgainst 30 = .ok (.iload 4, 2) := by decide +kernel
theorem dX4_fewestAgainst_32 : decode cX4_fewestAgainst 32 = .ok (.iload_n 3, 1) := by decide +kernel
theorem dX4_fewestAgainst_33 : decode cX4_fewestAgainst 33 = .ok (.invokestatic 208, 3) := by decide +kernel
theorem dX4_fewestAgainst_36 : decode cX4_fewestAgainst 36 = .ok (.ifCond .eq 7, 3) := by decide +kernel
theorem dX4_fewestAgainst_39 : decode cX4_fewestAgainst 39 = .ok (.iconst 1, 1) := by decide +kernel
theorem dX4_fewestAgainst_40 : decode cX4_fewestAgainst 40 = .ok (.goto 4, 3) := by decide +kernel
theorem dX4_fewestAgainst_43 : decode cX4_fewestAgainst 43 = .ok (.iconst 0, 1) := by decide +kernel
theorem dX4_fewestAgainst_44 : decode cX4_fewestAgainst 44 = .ok (.istore 5, 2) := by decide +kernel
theorem dX4_fewestAgainst_46 : decode cX4_fewestAgainst 46 = .ok (.iload 5, 2) := by decide +kernel
theorem dX4_fewestAgainst_48 : decode cX4_fewestAgainst 48 = .ok (.ifCond .eq 16, 3) := by decide +kernel
theorem dX4_fewestAgainst_51 : decode cX4_fewestAgainst 51 = .ok (.aload_n 0, 1) := by decide +kernel
theorem dX4_fewestAgainst_52 : decode cX4_fewestAgainst 52 = .ok (.aload_n 1, 1) := by decide +kernel
theorem dX4_fewestAgainst_53 : decode cX4_fewestAgainst 53 = .ok (.iload 4, 2) := by decide +kernel
theorem dX4_fewestAgainst_55 : decode cX4_fewestAgainst 55 = .ok (.invokevirtual 211, 3) := by decide +kernel
theorem dX4_fewestAgainst_58 : decode cX4_fewestAgainst 58 = .ok (.ifCond .eq 6, 3) := by decide +kernel
theorem dX4_fewestAgainst_61 : decode cX4_fewestAgainst 61 = .ok (.iload 4, 2) := by decide +kernel
theorem dX4_fewestAgainst_63 : decode cX4_fewestAgainst 63 = .ok (.istore_n 3, 1) := by decide +kernel
theorem dX4_fewestAgainst_64 : decode cX4_fewestAgainst 64 = .ok (.iinc 4 1, 3) := by decide +kernel
theorem dX4_fewestAgainst_67 : decode cX4_fewestAgainst 67 = .ok (.goto (-54), 3) := by decide +kernel
theorem dX4_fewestAgainst_70 : decode cX4_fewestAgainst 70 = .ok (.iload_n 3, 1) := by decide +kernel
theorem dX4_fewestAgainst_71 : decode cX4_fewestAgainst 71 = .ok (.ireturn, 1) := by decide +kernel
theorem dX4_isBefore_0 : decode cX4_isBefore 0 = .ok (.iload_n 0, 1) := by decide +kernel
theorem dX4_isBefore_1 : decode cX4_isBefore 1 = .ok (.invokestatic 215, 3) := by decide +kernel
theorem dX4_isBefore_4 : decode cX4_isBefore 4 = .ok (.iload_n 1, 1) := by decide +kernel
theorem dX4_isBefore_5 : decode cX4_isBefore 5 = .ok (.invokestatic 215, 3) := by decide +kernel
theorem dX4_isBefore_8 : decode cX4_isBefore 8 = .ok (.isub, 1) := by decide +kernel
theorem dX4_isBefore_9 : decode cX4_isBefore 9 = .ok (.istore_n 2, 1) := by decide +kernel
theorem dX4_isBefore_10 : decode cX4_isBefore 10 = .ok (.iload_n 0, 1) := by decide +kernel
theorem dX4_isBefore_11 : decode cX4_isBefore 11 = .ok (.iload_n 1, 1) := by decide +kernel
theorem dX4_isBefore_12 : decode cX4_isBefore 12 = .ok (.ixor, 1) := by decide +kernel
theorem dX4_isBefore_13 : decode cX4_isBefore 13 = .ok (.istore_n 3, 1) := by decide +kernel
theorem dX4_isBefore_14 : decode cX4_isBefore 14 = .ok (.iload_n 3, 1) := by decide +kernel
theorem dX4_isBefore_15 : decode cX4_isBefore 15 = .ok (.iload_n 3, 1) := by decide +kernel
theorem dX4_isBefore_16 : decode cX4_isBefore 16 = .ok (.ineg, 1) := by decide +kernel
theorem dX4_isBefore_17 : decode cX4_isBefore 17 = .ok (.iand, 1) := by decide +kernel
theorem dX4_isBefore_18 : decode cX4_isBefore 18 = .ok (.istore 4, 2) := by decide +kernel
theorem dX4_isBefore_20 : decode cX4_isBefore 20 = .ok (.iload_n 2, 1) := by decide +kernel
theorem dX4_isBefore_21 : decode cX4_isBefore 21 = .ok (.ifCond .lt 14, 3) := by decide +kernel
theorem dX4_isBefore_24 : decode cX4_isBefore 24 = .ok (.iload_n 2, 1) := by decide +kernel
theorem dX4_isBefore_25 : decode cX4_isBefore 25 = .ok (.ifCond .ne 14, 3) := by decide +kernel
theorem dX4_isBefore_28 : decode cX4_isBefore 28 = .ok (.iload_n 0, 1) := by decide +kernel
theorem dX4_isBefore_29 : decode cX4_isBefore 29 = .ok (.iload 4, 2) := by decide +kernel
theorem dX4_isBefore_31 : decode cX4_isBefore 31 = .ok (.iand, 1) := by decide +kernel
theorem dX4_isBefore_32 : decode cX4_isBefore 32 = .ok (.ifCond .eq 7, 3) := by decide +kernel
theorem dX4_isBefore_35 : decode cX4_isBefore 35 = .ok (.iconst 1, 1) := by decide +kernel
theorem dX4_isBefore_36 : decode cX4_isBefore 36 = .ok (.goto 4, 3) := by decide +kernel
theorem dX4_isBefore_39 : decode cX4_isBefore 39 = .ok (.iconst 0, 1) := by decide +kernel
theorem dX4_isBefore_40 : decode cX4_isBefore 40 = .ok (.ireturn, 1) := by decide +kernel
theorem dX4_leavesNothing_0 : decode cX4_leavesNothing 0 = .ok (.iconst 0, 1) := by decide +kernel
theorem dX4_leavesNothing_1 : decode cX4_leavesNothing 1 = .ok (.istore_n 3, 1) := by decide +kernel
theorem dX4_leavesNothing_2 : decode cX4_leavesNothing 2 = .ok (.iload_n 3, 1) := by decide +kernel
theorem dX4_leavesNothing_3 : decode cX4_leavesNothing 3 = .ok (.aload_n 1, 1) := by decide +kernel
theorem dX4_leavesNothing_4 : decode cX4_leavesNothing 4 = .ok (.invokevirtual 136, 3) := by decide +kernel
theorem dX4_leavesNothing_7 : decode cX4_leavesNothing 7 = .ok (.if_icmp .ge 68, 3) := by decide +kernel
theorem dX4_leavesNothing_10 : decode cX4_leavesNothing 10 = .ok (.aload_n 1, 1) := by decide +kernel
theorem dX4_leavesNothing_11 : decode cX4_leavesNothing 11 = .ok (.getfield 139, 3) := by decide +kernel
theorem dX4_leavesNothing_14 : decode cX4_leavesNothing 14 = .ok (.iload_n 3, 1) := by decide +kernel
theorem dX4_leavesNothing_15 : decode cX4_leavesNothing 15 = .ok (.laload, 1) := by decide +kernel
theorem dX4_leavesNothing_16 : decode cX4_leavesNothing 16 = .ok (.lstore 4, 2) := by decide +kernel
theorem dX4_leavesNothing_18 : decode cX4_leavesNothing 18 = .ok (.iconst 0, 1) := by decide +kernel
theorem dX4_leavesNothing_19 : decode cX4_leavesNothing 19 = .ok (.istore 6, 2) := by decide +kernel
theorem dX4_leavesNothing_21 : decode cX4_leavesNothing 21 = .ok (.iload 6, 2) := by decide +kernel
theorem dX4_leavesNothing_23 : decode cX4_leavesNothing 23 = .ok (.bipush 8, 2) := by decide +kernel
theorem dX4_leavesNothing_25 : decode cX4_leavesNothing 25 = .ok (.if_icmp .ge 35, 3) := by decide +kernel
theorem dX4_leavesNothing_28 : decode cX4_leavesNothing 28 = .ok (.iload_n 2, 1) := by decide +kernel
theorem dX4_leavesNothing_29 : decode cX4_leavesNothing 29 = .ok (.iload 6, 2) := by decide +kernel
theorem dX4_leavesNothing_31 : decode cX4_leavesNothing 31 = .ok (.ishr, 1) := by decide +kernel
theorem dX4_leavesNothing_32 : decode cX4_leavesNothing 32 = .ok (.iconst 1, 1) := by decide +kernel
theorem dX4_leavesNothing_33 : decode cX4_leavesNothing 33 = .ok (.iand, 1) := by decide +kernel
theorem dX4_leavesNothing_34 : decode cX4_leavesNothing 34 = .ok (.ifCond .eq 20, 3) := by decide +kernel
theorem dX4_leavesNothing_37 : decode cX4_leavesNothing 37 = .ok (.lload 4, 2) := by decide +kernel
theorem dX4_leavesNothing_39 : decode cX4_leavesNothing 39 = .ok (.aload_n 0, 1) := by decide +kernel
theorem dX4_leavesNothing_40 : decode cX4_leavesNothing 40 = .ok (.getfield 34, 3) := by decide +kernel
theorem dX4_leavesNothing_43 : decode cX4_leavesNothing 43 = .ok (.iload 6, 2) := by decide +kernel
theorem dX4_leavesNothing_45 : decode cX4_leavesNothing 45 = .ok (.aaload, 1) := by decide +kernel
theorem dX4_leavesNothing_46 : decode cX4_leavesNothing 46 = .ok (.getfield 139, 3) := by decide +kernel
theorem dX4_leavesNothing_49 : decode cX4_leavesNothing 49 = .ok (.iload_n 3, 1) := by decide +kernel
theorem dX4_leavesNothing_50 : decode cX4_leavesNothing 50 = .ok (.laload, 1) := by decide +kernel
theorem dX4_leavesNothing_51 : decode cX4_leavesNothing 51 = .ok (.land, 1) := by decide +kernel
theorem dX4_leavesNothing_52 : decode cX4_leavesNothing 52 = .ok (.lstore 4, 2) := by decide +kernel
theorem dX4_leavesNothing_54 : decode cX4_leavesNothing 54 = .ok (.iinc 6 1, 3) := by decide +kernel
theorem dX4_leavesNothing_57 : decode cX4_leavesNothing 57 = .ok (.goto (-36), 3) := by decide +kernel
theorem dX4_leavesNothing_60 : decode cX4_leavesNothing 60 = .ok (.lload 4, 2) := by decide +kernel
theorem dX4_leavesNothing_62 : decode cX4_leavesNothing 62 = .ok (.lconst 0, 1) := by decide +kernel
theorem dX4_leavesNothing_63 : decode cX4_leavesNothing 63 = .ok (.lcmp, 1) := by decide +kernel
theorem dX4_leavesNothing_64 : decode cX4_leavesNothing 64 = .ok (.ifCond .eq 5, 3) := by decide +kernel
theorem dX4_leavesNothing_67 : decode cX4_leavesNothing 67 = .ok (.iconst 0, 1) := by decide +kernel
theorem dX4_leavesNothing_68 : decode cX4_leavesNothing 68 = .ok (.ireturn, 1) := by decide +kernel
theorem dX4_leavesNothing_69 : decode cX4_leavesNothing 69 = .ok (.iinc 3 1, 3) := by decide +kernel
theorem dX4_leavesNothing_72 : decode cX4_leavesNothing 72 = .ok (.goto (-70), 3) := by decide +kernel
theorem dX4_leavesNothing_75 : decode cX4_leavesNothing 75 = .ok (.iconst 1, 1) := by decide +kernel
theorem dX4_leavesNothing_76 : decode cX4_leavesNothing 76 = .ok (.ireturn, 1) := by decide +kernel
theorem dX4_countWithout_0 : decode cX4_countWithout 0 = .ok (.aload_n 0, 1) := by decide +kernel
theorem dX4_countWithout_1 : decode cX4_countWithout 1 = .ok (.getfield 12, 3) := by decide +kernel
theorem dX4_countWithout_4 : decode cX4_countWithout 4 = .ok (.invokevirtual 90, 3) := by decide +kernel
theorem dX4_countWithout_7 : decode cX4_countWithout 7 = .ok (.istore_n 2, 1) := by decide +kernel
theorem dX4_countWithout_8 : decode cX4_countWithout 8 = .ok (.aload_n 0, 1) := by decide +kernel
theorem dX4_countWithout_9 : decode cX4_countWithout 9 = .ok (.getfield 12, 3) := by decide +kernel
theorem dX4_countWithout_12 : decode cX4_countWithout 12 = .ok (.iload_n 1, 1) := by decide +kernel
theorem dX4_countWithout_13 : decode cX4_countWithout 13 = .ok (.invokevirtual 220, 3) := by decide +kernel
theorem dX4_countWithout_16 : decode cX4_countWithout 16 = .ok (.ifCond .eq 15, 3) := by decide +kernel
theorem dX4_countWithout_19 : decode cX4_countWithout 19 = .ok (.iload_n 2, 1) := by decide +kernel
theorem dX4_countWithout_20 : decode cX4_countWithout 20 = .ok (.iload_n 1, 1) := by decide +kernel
theorem dX4_countWithout_21 : decode cX4_countWithout 21 = .ok (.ishr, 1) := by decide +kernel
theorem dX4_countWithout_22 : decode cX4_countWithout 22 = .ok (.iconst 1, 1) := by decide +kernel
theorem dX4_countWithout_23 : decode cX4_countWithout 23 = .ok (.iand, 1) := by decide +kernel
theorem dX4_countWithout_24 : decode cX4_countWithout 24 = .ok (.ifCond .eq 7, 3) := by decide +kernel
theorem dX4_countWithout_27 : decode cX4_countWithout 27 = .ok (.iconst 1, 1) := by decide +kernel
theorem dX4_countWithout_28 : decode cX4_countWithout 28 = .ok (.goto 4, 3) := by decide +kernel
theorem dX4_countWithout_31 : decode cX4_countWithout 31 = .ok (.iconst 0, 1) := by decide +kernel
theorem dX4_countWithout_32 : decode cX4_countWithout 32 = .ok (.istore_n 3, 1) := by decide +kernel
theorem dX4_countWithout_33 : decode cX4_countWithout 33 = .ok (.iload_n 3, 1) := by decide +kernel
theorem dX4_countWithout_34 : decode cX4_countWithout 34 = .ok (.ifCond .eq 10, 3) := by decide +kernel
theorem dX4_countWithout_37 : decode cX4_countWithout 37 = .ok (.aload_n 0, 1) := by decide +kernel
theorem dX4_countWithout_38 : decode cX4_countWithout 38 = .ok (.invokevirtual 147, 3) := by decide +kernel
theorem dX4_countWithout_41 : decode cX4_countWithout 41 = .ok (.ifCond .ne 5, 3) := by decide +kernel
theorem dX4_countWithout_44 : decode cX4_countWithout 44 = .ok (.iconst (-1), 1) := by decide +kernel
theorem dX4_countWithout_45 : decode cX4_countWithout 45 = .ok (.ireturn, 1) := by decide +kernel
theorem dX4_countWithout_46 : decode cX4_countWithout 46 = .ok (.aload_n 0, 1) := by decide +kernel
theorem dX4_countWithout_47 : decode cX4_countWithout 47 = .ok (.getfield 50, 3) := by decide +kernel
theorem dX4_countWithout_50 : decode cX4_countWithout 50 = .ok (.aload_n 0, 1) := by decide +kernel
theorem dX4_countWithout_51 : decode cX4_countWithout 51 = .ok (.getfield 43, 3) := by decide +kernel
theorem dX4_countWithout_54 : decode cX4_countWithout 54 = .ok (.invokevirtual 86, 3) := by decide +kernel
theorem dX4_countWithout_57 : decode cX4_countWithout 57 = .ok (.iconst 0, 1) := by decide +kernel
theorem dX4_countWithout_58 : decode cX4_countWithout 58 = .ok (.istore 4, 2) := by decide +kernel
theorem dX4_countWithout_60 : decode cX4_countWithout 60 = .ok (.iload 4, 2) := by decide +kernel
theorem dX4_countWithout_62 : decode cX4_countWithout 62 = .ok (.bipush 8, 2) := by decide +kernel
theorem dX4_countWithout_64 : decode cX4_countWithout 64 = .ok (.if_icmp .ge 38, 3) := by decide +kernel
theorem dX4_countWithout_67 : decode cX4_countWithout 67 = .ok (.iload 4, 2) := by decide +kernel
theorem dX4_countWithout_69 : decode cX4_countWithout 69 = .ok (.iload_n 1, 1) := by decide +kernel
theorem dX4_countWithout_70 : decode cX4_countWithout 70 = .ok (.if_icmp .eq 26, 3) := by decide +kernel
theorem dX4_countWithout_73 : decode cX4_countWithout 73 = .ok (.iload_n 2, 1) := by decide +kernel
theorem dX4_countWithout_74 : decode cX4_countWithout 74 = .ok (.iload 4, 2) := by decide +kernel
theorem dX4_countWithout_76 : decode cX4_countWithout 76 = .ok (.ishr, 1) := by decide +kernel
theorem dX4_countWithout_77 : decode cX4_countWithout 77 = .ok (.iconst 1, 1) := by decide +kernel
theorem dX4_countWithout_78 : decode cX4_countWithout 78 = .ok (.iand, 1) := by decide +kernel
theorem dX4_countWithout_79 : decode cX4_countWithout 79 = .ok (.ifCond .eq 17, 3) := by decide +kernel
theorem dX4_countWithout_82 : decode cX4_countWithout 82 = .ok (.aload_n 0, 1) := by decide +kernel
theorem dX4_countWithout_83 : decode cX4_countWithout 83 = .ok (.getfield 50, 3) := by decide +kernel
theorem dX4_countWithout_86 : decode cX4_countWithout 86 = .ok (.aload_n 0, 1) := by decide +kernel
theorem dX4_countWithout_87 : decode cX4_countWithout 87 = .ok (.getfield 34, 3) := by decide +kernel
theorem dX4_countWithout_90 : decode cX4_countWithout 90 = .ok (.iload 4, 2) := by decide +kernel
theorem dX4_countWithout_92 : decode cX4_countWithout 92 = .ok (.aaload, 1) := by decide +kernel
theorem dX4_countWithout_93 : decode cX4_countWithout 93 = .ok (.invokevirtual 102, 3) := by decide +kernel
theorem dX4_countWithout_96 : decode cX4_countWithout 96 = .ok (.iinc 4 1, 3) := by decide +kernel
theorem dX4_countWithout_99 : decode cX4_countWithout 99 = .ok (.goto (-39), 3) := by decide +kernel
theorem dX4_countWithout_102 : decode cX4_countWithout 102 = .ok (.aload_n 0, 1) := by decide +kernel
theorem dX4_countWithout_103 : decode cX4_countWithout 103 = .ok (.getfield 50, 3) := by decide +kernel
theorem dX4_countWithout_106 : decode cX4_countWithout 106 = .ok (.invokevirtual 150, 3) := by decide +kernel
theorem dX4_countWithout_109 : decode cX4_countWithout 109 = .ok (.ireturn, 1) := by decide +kernel
theorem dX4_fewestQuestions_0 : decode cX4_fewestQuestions 0 = .ok (.aload_n 0, 1) := by decide +kernel
theorem dX4_fewestQuestions_1 : decode cX4_fewestQuestions 1 = .ok (.invokevirtual 147, 3) := by decide +kernel
theorem dX4_fewestQuestions_4 : decode cX4_fewestQuestions 4 = .ok (.ifCond .eq 25, 3) := by decide +kernel
theorem dX4_fewestQuestions_7 : decode cX4_fewestQuestions 7 = .ok (.aload_n 0, 1) := by decide +kernel
theorem dX4_fewestQuestions_8 : decode cX4_fewestQuestions 8 = .ok (.getfield 47, 3) := by decide +kernel
theorem dX4_fewestQuestions_11 : decode cX4_fewestQuestions 11 = .ok (.invokevirtual 198, 3) := by decide +kernel
theorem dX4_fewestQuestions_14 : decode cX4_fewestQuestions 14 = .ok (.ifCond .ne 15, 3) := by decide +kernel
theorem dX4_fewestQuestions_17 : decode cX4_fewestQuestions 17 = .ok (.aload_n 0, 1) := by decide +kernel
theorem dX4_fewestQuestions_18 : decode cX4_fewestQuestions 18 = .ok (.getfield 47, 3) := by decide +kernel
theorem dX4_fewestQuestions_21 : decode cX4_fewestQuestions 21 = .ok (.invokevirtual 150, 3) := by decide +kernel
theorem dX4_fewestQuestions_24 : decode cX4_fewestQuestions 24 = .ok (.bipush 16, 2) := by decide +kernel
theorem dX4_fewestQuestions_26 : decode cX4_fewestQuestions 26 = .ok (.if_icmp .le 5, 3) := by decide +kernel
theorem dX4_fewestQuestions_29 : decode cX4_fewestQuestions 29 = .ok (.iconst (-1), 1) := by decide +kernel
theorem dX4_fewestQuestions_30 : decode cX4_fewestQuestions 30 = .ok (.ireturn, 1) := by decide +kernel
theorem dX4_fewestQuestions_31 : decode cX4_fewestQuestions 31 = .ok (.aload_n 0, 1) := by decide +kernel
theorem dX4_fewestQuestions_32 : decode cX4_fewestQuestions 32 = .ok (.invokevirtual 224, 3) := by decide +kernel
theorem dX4_fewestQuestions_35 : decode cX4_fewestQuestions 35 = .ok (.istore_n 1, 1) := by decide +kernel
theorem dX4_fewestQuestions_36 : decode cX4_fewestQuestions 36 = .ok (.iconst 0, 1) := by decide +kernel
theorem dX4_fewestQuestions_37 : decode cX4_fewestQuestions 37 = .ok (.istore_n 2, 1) := by decide +kernel
theorem dX4_fewestQuestions_38 : decode cX4_fewestQuestions 38 = .ok (.iload_n 2, 1) := by decide +kernel
theorem dX4_fewestQuestions_39 : decode cX4_fewestQuestions 39 = .ok (.iconst 4, 1) := by decide +kernel
theorem dX4_fewestQuestions_40 : decode cX4_fewestQuestions 40 = .ok (.if_icmp .gt 23, 3) := by decide +kernel
theorem dX4_fewestQuestions_43 : decode cX4_fewestQuestions 43 = .ok (.aload_n 0, 1) := by decide +kernel
theorem dX4_fewestQuestions_44 : decode cX4_fewestQuestions 44 = .ok (.getfield 67, 3) := by decide +kernel
theorem dX4_fewestQuestions_47 : decode cX4_fewestQuestions 47 = .ok (.iload_n 1, 1) := by decide +kernel
theorem dX4_fewestQuestions_48 : decode cX4_fewestQuestions 48 = .ok (.iload_n 2, 1) := by decide +kernel
theorem dX4_fewestQuestions_49 : decode cX4_fewestQuestions 49 = .ok (.invokestatic 227, 3) := by decide +kernel
theorem dX4_fewestQuestions_52 : decode cX4_fewestQuestions 52 = .ok (.ifCond .eq 5, 3) := by decide +kernel
theorem dX4_fewestQuestions_55 : decode cX4_fewestQuestions 55 = .ok (.iload_n 2, 1) := by decide +kernel
theorem dX4_fewestQuestions_56 : decode cX4_fewestQuestions 56 = .ok (.ireturn, 1) := by decide +kernel
theorem dX4_fewestQuestions_57 : decode cX4_fewestQuestions 57 = .ok (.iinc 2 1, 3) := by decide +kernel
theorem dX4_fewestQuestions_60 : decode cX4_fewestQuestions 60 = .ok (.goto (-22), 3) := by decide +kernel
theorem dX4_fewestQuestions_63 : decode cX4_fewestQuestions 63 = .ok (.iconst (-1), 1) := by decide +kernel
theorem dX4_fewestQuestions_64 : decode cX4_fewestQuestions 64 = .ok (.ireturn, 1) := by decide +kernel
theorem dX4_takeAsked_0 : decode cX4_takeAsked 0 = .ok (.iconst 0, 1) := by decide +kernel
theorem dX4_takeAsked_1 : decode cX4_takeAsked 1 = .ok (.istore_n 1, 1) := by decide +kernel
theorem dX4_takeAsked_2 : decode cX4_takeAsked 2 = .ok (.iconst 0, 1) := by decide +kernel
theorem dX4_takeAsked_3 : decode cX4_takeAsked 3 = .ok (.istore_n 2, 1) := by decide +kernel
theorem dX4_takeAsked_4 : decode cX4_takeAsked 4 = .ok (.iload_n 2, 1) := by decide +kernel
theorem dX4_takeAsked_5 : decode cX4_takeAsked 5 = .ok (.bipush 12, 2) := by decide +kernel
theorem dX4_takeAsked_7 : decode cX4_takeAsked 7 = .ok (.if_icmp .ge 16, 3) := by decide +kernel
theorem dX4_takeAsked_10 : decode cX4_takeAsked 10 = .ok (.aload_n 0, 1) := by decide +kernel
theorem dX4_takeAsked_11 : decode cX4_takeAsked 11 = .ok (.getfield 67, 3) := by decide +kernel
theorem dX4_takeAsked_14 : decode cX4_takeAsked 14 = .ok (.iload_n 2, 1) := by decide +kernel
theorem dX4_takeAsked_15 : decode cX4_takeAsked 15 = .ok (.iconst 0, 1) := by decide +kernel
theorem dX4_takeAsked_16 : decode cX4_takeAsked 16 = .ok (.iastore, 1) := by decide +kernel
theorem dX4_takeAsked_17 : decode cX4_takeAsked 17 = .ok (.iinc 2 1, 3) := by decide +kernel
theorem dX4_takeAsked_20 : decode cX4_takeAsked 20 = .ok (.goto (-16), 3) := by decide +kernel
theorem dX4_takeAsked_23 : decode cX4_takeAsked 23 = .ok (.aload_n 0, 1) := by decide +kernel
theorem dX4_takeAsked_24 : decode cX4_takeAsked 24 = .ok (.getfield 47, 3) := by decide +kernel
theorem dX4_takeAsked_27 : decode cX4_takeAsked 27 = .ok (.invokevirtual 150, 3) := by decide +kernel
theorem dX4_takeAsked_30 : decode cX4_takeAsked 30 = .ok (.istore_n 2, 1) := by decide +kernel
theorem dX4_takeAsked_31 : decode cX4_takeAsked 31 = .ok (.iconst 0, 1) := by decide +kernel
theorem dX4_takeAsked_32 : decode cX4_takeAsked 32 = .ok (.istore_n 3, 1) := by decide +kernel
theorem dX4_takeAsked_33 : decode cX4_takeAsked 33 = .ok (.iload_n 3, 1) := by decide +kernel
theorem dX4_takeAsked_34 : decode cX4_takeAsked 34 = .ok (.iload_n 2, 1) := by decide +kernel
theorem dX4_takeAsked_35 : decode cX4_takeAsked 35 = .ok (.if_icmp .ge 89, 3) := by decide +kernel
theorem dX4_takeAsked_38 : decode cX4_takeAsked 38 = .ok (.aload_n 0, 1) := by decide +kernel
theorem dX4_takeAsked_39 : decode cX4_takeAsked 39 = .ok (.getfield 47, 3) := by decide +kernel
theorem dX4_takeAsked_42 : decode cX4_takeAsked 42 = .ok (.iload_n 3, 1) := by decide +kernel
theorem dX4_takeAsked_43 : decode cX4_takeAsked 43 = .ok (.invokevirtual 160, 3) := by decide +kernel
theorem dX4_takeAsked_46 : decode cX4_takeAsked 46 = .ok (.istore 4, 2) := by decide +kernel
theorem dX4_takeAsked_48 : decode cX4_takeAsked 48 = .ok (.iconst 0, 1) := by decide +kernel
theorem dX4_takeAsked_49 : decode cX4_takeAsked 49 = .ok (.istore 5, 2) := by decide +kernel
theorem dX4_takeAsked_51 : decode cX4_takeAsked 51 = .ok (.iload 5, 2) := by decide +kernel
theorem dX4_takeAsked_53 : decode cX4_takeAsked 53 = .ok (.aload_n 0, 1) := by decide +kernel
theorem dX4_takeAsked_54 : decode cX4_takeAsked 54 = .ok (.getfield 12, 3) := by decide +kernel
theorem dX4_takeAsked_57 : decode cX4_takeAsked 57 = .ok (.getfield 73, 3) := by decide +kernel
theorem dX4_takeAsked_60 : decode cX4_takeAsked 60 = .ok (.getfield 76, 3) := by decide +kernel
theorem dX4_takeAsked_63 : decode cX4_takeAsked 63 = .ok (.if_icmp .ge 49, 3) := by decide +kernel
theorem dX4_takeAsked_66 : decode cX4_takeAsked 66 = .ok (.iload 5, 2) := by decide +kernel
theorem dX4_takeAsked_68 : decode cX4_takeAsked 68 = .ok (.bipush 12, 2) := by decide +kernel
theorem dX4_takeAsked_70 : decode cX4_takeAsked 70 = .ok (.if_icmp .ge 42, 3) := by decide +kernel
theorem dX4_takeAsked_73 : decode cX4_takeAsked 73 = .ok (.iload 4, 2) := by decide +kernel
theorem dX4_takeAsked_75 : decode cX4_takeAsked 75 = .ok (.aload_n 0, 1) := by decide +kernel
theorem dX4_takeAsked_76 : decode cX4_takeAsked 76 = .ok (.getfield 12, 3) := by decide +kernel
theorem dX4_takeAsked_79 : decode cX4_takeAsked 79 = .ok (.getfield 73, 3) := by decide +kernel
theorem dX4_takeAsked_82 : decode cX4_takeAsked 82 = .ok (.iload 5, 2) := by decide +kernel
theorem dX4_takeAsked_84 : decode cX4_takeAsked 84 = .ok (.invokevirtual 125, 3) := by decide +kernel
theorem dX4_takeAsked_87 : decode cX4_takeAsked 87 = .ok (.ishr, 1) := by decide +kernel
theorem dX4_takeAsked_88 : decode cX4_takeAsked 88 = .ok (.iconst 1, 1) := by decide +kernel
theorem dX4_takeAsked_89 : decode cX4_takeAsked 89 = .ok (.iand, 1) := by decide +kernel
theorem dX4_takeAsked_90 : decode cX4_takeAsked 90 = .ok (.ifCond .eq 16, 3) := by decide +kernel
theorem dX4_takeAsked_93 : decode cX4_takeAsked 93 = .ok (.aload_n 0, 1) := by decide +kernel
theorem dX4_takeAsked_94 : decode cX4_takeAsked 94 = .ok (.getfield 67, 3) := by decide +kernel
theorem dX4_takeAsked_97 : decode cX4_takeAsked 97 = .ok (.iload 5, 2) := by decide +kernel
theorem dX4_takeAsked_99 : decode cX4_takeAsked 99 = .ok (.dup2, 1) := by decide +kernel
theorem dX4_takeAsked_100 : decode cX4_takeAsked 100 = .ok (.iaload, 1) := by decide +kernel
theorem dX4_takeAsked_101 : decode cX4_takeAsked 101 = .ok (.iconst 1, 1) := by decide +kernel
theorem dX4_takeAsked_102 : decode cX4_takeAsked 102 = .ok (.iload_n 3, 1) := by decide +kernel
theorem dX4_takeAsked_103 : decode cX4_takeAsked 103 = .ok (.ishl, 1) := by decide +kernel
theorem dX4_takeAsked_104 : decode cX4_takeAsked 104 = .ok (.ior, 1) := by decide +kernel
theorem dX4_takeAsked_105 : decode cX4_takeAsked 105 = .ok (.iastore, 1) := by decide +kernel
theorem dX4_takeAsked_106 : decode cX4_takeAsked 106 = .ok (.iinc 5 1, 3) := by decide +kernel
theorem dX4_takeAsked_109 : decode cX4_takeAsked 109 = .ok (.goto (-58), 3) := by decide +kernel
theorem dX4_takeAsked_112 : decode cX4_takeAsked 112 = .ok (.iload_n 1, 1) := by decide +kernel
theorem dX4_takeAsked_113 : decode cX4_takeAsked 113 = .ok (.iconst 1, 1) := by decide +kernel
theorem dX4_takeAsked_114 : decode cX4_takeAsked 114 = .ok (.iload_n 3, 1) := by decide +kernel
theorem dX4_takeAsked_115 : decode cX4_takeAsked 115 = .ok (.ishl, 1) := by decide +kernel
theorem dX4_takeAsked_116 : decode cX4_takeAsked 116 = .ok (.ior, 1) := by decide +kernel
theorem dX4_takeAsked_117 : decode cX4_takeAsked 117 = .ok (.istore_n 1, 1) := by decide +kernel
theorem dX4_takeAsked_118 : decode cX4_takeAsked 118 = .ok (.iinc 3 1, 3) := by decide +kernel
theorem dX4_takeAsked_121 : decode cX4_takeAsked 121 = .ok (.goto (-88), 3) := by decide +kernel
theorem dX4_takeAsked_124 : decode cX4_takeAsked 124 = .ok (.iload_n 1, 1) := by decide +kernel
theorem dX4_takeAsked_125 : decode cX4_takeAsked 125 = .ok (.ireturn, 1) := by decide +kernel
theorem dX4_suffice_0 : decode cX4_suffice 0 = .ok (.iload_n 1, 1) := by decide +kernel
theorem dX4_suffice_1 : decode cX4_suffice 1 = .ok (.invokestatic 215, 3) := by decide +kernel
theorem dX4_suffice_4 : decode cX4_suffice 4 = .ok (.iconst 1, 1) := by decide +kernel
theorem dX4_suffice_5 : decode cX4_suffice 5 = .ok (.if_icmp .gt 5, 3) := by decide +kernel
theorem dX4_suffice_8 : decode cX4_suffice 8 = .ok (.iconst 1, 1) := by decide +kernel
theorem dX4_suffice_9 : decode cX4_suffice 9 = .ok (.ireturn, 1) := by decide +kernel
theorem dX4_suffice_10 : decode cX4_suffice 10 = .ok (.iload_n 2, 1) := by decide +kernel
theorem dX4_suffice_11 : decode cX4_suffice 11 = .ok (.ifCond .le 13, 3) := by decide +kernel
theorem dX4_suffice_14 : decode cX4_suffice 14 = .ok (.iload_n 1, 1) := by decide +kernel
theorem dX4_suffice_15 : decode cX4_suffice 15 = .ok (.invokestatic 215, 3) := by decide +kernel
theorem dX4_suffice_18 : decode cX4_suffice 18 = .ok (.iconst 1, 1) := by decide +kernel
theorem dX4_suffice_19 : decode cX4_suffice 19 = .ok (.iload_n 2, 1) := by decide +kernel
theorem dX4_suffice_20 : decode cX4_suffice 20 = .ok (.ishl, 1) := by decide +kernel
theorem dX4_suffice_21 : decode cX4_suffice 21 = .ok (.if_icmp .le 5, 3) := by decide +kernel
theorem dX4_suffice_24 : decode cX4_suffice 24 = .ok (.iconst 0, 1) := by decide +kernel
theorem dX4_suffice_25 : decode cX4_suffice 25 = .ok (.ireturn, 1) := by decide +kernel
theorem dX4_suffice_26 : decode cX4_suffice 26 = .ok (.iconst 0, 1) := by decide +kernel
theorem dX4_suffice_27 : decode cX4_suffice 27 = .ok (.istore_n 3, 1) := by decide +kernel
theorem dX4_suffice_28 : decode cX4_suffice 28 = .ok (.iload_n 3, 1) := by decide +kernel
theorem dX4_suffice_29 : decode cX4_suffice 29 = .ok (.aload_n 0, 1) := by decide +kernel
theorem dX4_suffice_30 : decode cX4_suffice 30 = .ok (.arraylength, 1) := by decide +kernel
theorem dX4_suffice_31 : decode cX4_suffice 31 = .ok (.if_icmp .ge 73, 3) := by decide +kernel
theorem dX4_suffice_34 : decode cX4_suffice 34 = .ok (.iload_n 1, 1) := by decide +kernel
theorem dX4_suffice_35 : decode cX4_suffice 35 = .ok (.aload_n 0, 1) := by decide +kernel
theorem dX4_suffice_36 : decode cX4_suffice 36 = .ok (.iload_n 3, 1) := by decide +kernel
theorem dX4_suffice_37 : decode cX4_suffice 37 = .ok (.iaload, 1) := by decide +kernel
theorem dX4_suffice_38 : decode cX4_suffice 38 = .ok (.iand, 1) := by decide +kernel
theorem dX4_suffice_39 : decode cX4_suffice 39 = .ok (.istore 4, 2) := by decide +kernel
theorem dX4_suffice_41 : decode cX4_suffice 41 = .ok (.iload_n 1, 1) := by decide +kernel
theorem dX4_suffice_42 : decode cX4_suffice 42 = .ok (.aload_n 0, 1) := by decide +kernel
theorem dX4_suffice_43 : decode cX4_suffice 43 = .ok (.iload_n 3, 1) := by decide +kernel
theorem dX4_suffice_44 : decode cX4_suffice 44 = .ok (.iaload, 1) := by decide +kernel
theorem dX4_suffice_45 : decode cX4_suffice 45 = .ok (.iconst (-1), 1) := by decide +kernel
theorem dX4_suffice_46 : decode cX4_suffice 46 = .ok (.ixor, 1) := by decide +kernel
theorem dX4_suffice_47 : decode cX4_suffice 47 = .ok (.iand, 1) := by decide +kernel
theorem dX4_suffice_48 : decode cX4_suffice 48 = .ok (.istore 5, 2) := by decide +kernel
theorem dX4_suffice_50 : decode cX4_suffice 50 = .ok (.iload 4, 2) := by decide +kernel
theorem dX4_suffice_52 : decode cX4_suffice 52 = .ok (.ifCond .eq 12, 3) := by decide +kernel
theorem dX4_suffice_55 : decode cX4_suffice 55 = .ok (.iload 5, 2) := by decide +kernel
theorem dX4_suffice_57 : decode cX4_suffice 57 = .ok (.ifCond .eq 7, 3) := by decide +kernel
theorem dX4_suffice_60 : decode cX4_suffice 60 = .ok (.iconst 1, 1) := by decide +kernel
theorem dX4_suffice_61 : decode cX4_suffice 61 = .ok (.goto 4, 3) := by decide +kernel
theorem dX4_suffice_64 : decode cX4_suffice 64 = .ok (.iconst 0, 1) := by decide +kernel
theorem dX4_suffice_65 : decode cX4_suffice 65 = .ok (.istore 6, 2) := by decide +kernel
theorem dX4_suffice_67 : decode cX4_suffice 67 = .ok (.iload 6, 2) := by decide +kernel
theorem dX4_suffice_69 : decode cX4_suffice 69 = .ok (.ifCond .eq 29, 3) := by decide +kernel
theorem dX4_suffice_72 : decode cX4_suffice 72 = .ok (.aload_n 0, 1) := by decide +kernel
theorem dX4_suffice_73 : decode cX4_suffice 73 = .ok (.iload 4, 2) := by decide +kernel
theorem dX4_suffice_75 : decode cX4_suffice 75 = .ok (.iload_n 2, 1) := by decide +kernel
theorem dX4_suffice_76 : decode cX4_suffice 76 = .ok (.iconst 1, 1) := by decide +kernel
theorem dX4_suffice_77 : decode cX4_suffice 77 = .ok (.isub, 1) := by decide +kernel
theorem dX4_suffice_78 : decode cX4_suffice 78 = .ok (.invokestatic 227, 3) := by decide +kernel
theorem dX4_suffice_81 : decode cX4_suffice 81 = .ok (.ifCond .eq 17, 3) := by decide +kernel
theorem dX4_suffice_84 : decode cX4_suffice 84 = .ok (.aload_n 0, 1) := by decide +kernel
theorem dX4_suffice_85 : decode cX4_suffice 85 = .ok (.iload 5, 2) := by decide +kernel
theorem dX4_suffice_87 : decode cX4_suffice 87 = .ok (.iload_n 2, 1) := by decide +kernel
theorem dX4_suffice_88 : decode cX4_suffice 88 = .ok (.iconst 1, 1) := by decide +kernel
theorem dX4_suffice_89 : decode cX4_suffice 89 = .ok (.isub, 1) := by decide +kernel
theorem dX4_suffice_90 : decode cX4_suffice 90 = .ok (.invokestatic 227, 3) := by decide +kernel
theorem dX4_suffice_93 : decode cX4_suffice 93 = .ok (.ifCond .eq 5, 3) := by decide +kernel
theorem dX4_suffice_96 : decode cX4_suffice 96 = .ok (.iconst 1, 1) := by decide +kernel
theorem dX4_suffice_97 : decode cX4_suffice 97 = .ok (.ireturn, 1) := by decide +kernel
theorem dX4_suffice_98 : decode cX4_suffice 98 = .ok (.iinc 3 1, 3) := by decide +kernel
theorem dX4_suffice_101 : decode cX4_suffice 101 = .ok (.goto (-73), 3) := by decide +kernel
theorem dX4_suffice_104 : decode cX4_suffice 104 = .ok (.iconst 0, 1) := by decide +kernel
theorem dX4_suffice_105 : decode cX4_suffice 105 = .ok (.ireturn, 1) := by decide +kernel
theorem dX4_settlingPlace_0 : decode cX4_settlingPlace 0 = .ok (.aload_n 0, 1) := by decide +kernel
theorem dX4_settlingPlace_1 : decode cX4_settlingPlace 1 = .ok (.invokevirtual 147, 3) := by decide +kernel
theorem dX4_settlingPlace_4 : decode cX4_settlingPlace 4 = .ok (.ifCond .eq 13, 3) := by decide +kernel
theorem dX4_settlingPlace_7 : decode cX4_settlingPlace 7 = .ok (.aload_n 0, 1) := by decide +kernel
theorem dX4_settlingPlace_8 : decode cX4_settlingPlace 8 = .ok (.getfield 47, 3) := by decide +kernel
theorem dX4_settlingPlace_11 : decode cX4_settlingPlace 11 = .ok (.invokevirtual 198, 3) := by decide +kernel
theorem dX4_settlingPlace_14 : decode cX4_settlingPlace 14 = .ok (.ifCond .eq 5, 3) := by decide +kernel
theorem dX4_settlingPlace_17 : decode cX4_settlingPlace 17 = .ok (.iconst (-1), 1) := by decide +kernel
theorem dX4_settlingPlace_18 : decode cX4_settlingPlace 18 = .ok (.ireturn, 1) := by decide +kernel
theorem dX4_settlingPlace_19 : decode cX4_settlingPlace 19 = .ok (.iconst (-1), 1) := by decide +kernel
theorem dX4_settlingPlace_20 : decode cX4_settlingPlace 20 = .ok (.istore_n 1, 1) := by decide +kernel
theorem dX4_settlingPlace_21 : decode cX4_settlingPlace 21 = .ok (.iconst 0, 1) := by decide +kernel
theorem dX4_settlingPlace_22 : decode cX4_settlingPlace 22 = .ok (.istore_n 2, 1) := by decide +kernel
theorem dX4_settlingPlace_23 : decode cX4_settlingPlace 23 = .ok (.iload_n 2, 1) := by decide +kernel
theorem dX4_settlingPlace_24 : decode cX4_settlingPlace 24 = .ok (.aload_n 0, 1) := by decide +kernel
theorem dX4_settlingPlace_25 : decode cX4_settlingPlace 25 = .ok (.getfield 12, 3) := by decide +kernel
theorem dX4_settlingPlace_28 : decode cX4_settlingPlace 28 = .ok (.getfield 73, 3) := by decide +kernel
theorem dX4_settlingPlace_31 : decode cX4_settlingPlace 31 = .ok (.getfield 76, 3) := by decide +kernel
theorem dX4_settlingPlace_34 : decode cX4_settlingPlace 34 = .ok (.if_icmp .ge 29, 3) := by decide +kernel
theorem dX4_settlingPlace_37 : decode cX4_settlingPlace 37 = .ok (.iload_n 1, 1) := by decide +kernel
theorem dX4_settlingPlace_38 : decode cX4_settlingPlace 38 = .ok (.iconst (-1), 1) := by decide +kernel
theorem dX4_settlingPlace_39 : decode cX4_settlingPlace 39 = .ok (.if_icmp .eq 16, 3) := by decide +kernel
theorem dX4_settlingPlace_42 : decode cX4_settlingPlace 42 = .ok (.aload_n 0, 1) := by decide +kernel
theorem dX4_settlingPlace_43 : decode cX4_settlingPlace 43 = .ok (.iload_n 2, 1) := by decide +kernel
theorem dX4_settlingPlace_44 : decode cX4_settlingPlace 44 = .ok (.invokevirtual 231, 3) := by decide +kernel
theorem dX4_settlingPlace_47 : decode cX4_settlingPlace 47 = .ok (.aload_n 0, 1) := by decide +kernel
theorem dX4_settlingPlace_48 : decode cX4_settlingPlace 48 = .ok (.iload_n 1, 1) := by decide +kernel
theorem dX4_settlingPlace_49 : decode cX4_settlingPlace 49 = .ok (.invokevirtual 231, 3) := by decide +kernel
theorem dX4_settlingPlace_52 : decode cX4_settlingPlace 52 = .ok (.if_icmp .ge 5, 3) := by decide +kernel
theorem dX4_settlingPlace_55 : decode cX4_settlingPlace 55 = .ok (.iload_n 2, 1) := by decide +kernel
theorem dX4_settlingPlace_56 : decode cX4_settlingPlace 56 = .ok (.istore_n 1, 1) := by decide +kernel
theorem dX4_settlingPlace_57 : decode cX4_settlingPlace 57 = .ok (.iinc 2 1, 3) := by decide +kernel
theorem dX4_settlingPlace_60 : decode cX4_settlingPlace 60 = .ok (.goto (-37), 3) := by decide +kernel
theorem dX4_settlingPlace_63 : decode cX4_settlingPlace 63 = .ok (.iload_n 1, 1) := by decide +kernel
theorem dX4_settlingPlace_64 : decode cX4_settlingPlace 64 = .ok (.ireturn, 1) := by decide +kernel
theorem dX4_greaterAt_0 : decode cX4_greaterAt 0 = .ok (.aload_n 0, 1) := by decide +kernel
theorem dX4_greaterAt_1 : decode cX4_greaterAt 1 = .ok (.getfield 47, 3) := by decide +kernel
theorem dX4_greaterAt_4 : decode cX4_greaterAt 4 = .ok (.aload_n 0, 1) := by decide +kernel
theorem dX4_greaterAt_5 : decode cX4_greaterAt 5 = .ok (.getfield 12, 3) := by decide +kernel
theorem dX4_greaterAt_8 : decode cX4_greaterAt 8 = .ok (.getfield 73, 3) := by decide +kernel
theorem dX4_greaterAt_11 : decode cX4_greaterAt 11 = .ok (.iload_n 1, 1) := by decide +kernel
theorem dX4_greaterAt_12 : decode cX4_greaterAt 12 = .ok (.invokevirtual 125, 3) := by decide +kernel
theorem dX4_greaterAt_15 : decode cX4_greaterAt 15 = .ok (.invokevirtual 205, 3) := by decide +kernel
theorem dX4_greaterAt_18 : decode cX4_greaterAt 18 = .ok (.istore_n 2, 1) := by decide +kernel
theorem dX4_greaterAt_19 : decode cX4_greaterAt 19 = .ok (.iload_n 2, 1) := by decide +kernel
theorem dX4_greaterAt_20 : decode cX4_greaterAt 20 = .ok (.aload_n 0, 1) := by decide +kernel
theorem dX4_greaterAt_21 : decode cX4_greaterAt 21 = .ok (.getfield 47, 3) := by decide +kernel
theorem dX4_greaterAt_24 : decode cX4_greaterAt 24 = .ok (.invokevirtual 150, 3) := by decide +kernel
theorem dX4_greaterAt_27 : decode cX4_greaterAt 27 = .ok (.iload_n 2, 1) := by decide +kernel
theorem dX4_greaterAt_28 : decode cX4_greaterAt 28 = .ok (.isub, 1) := by decide +kernel
theorem dX4_greaterAt_29 : decode cX4_greaterAt 29 = .ok (.invokestatic 234, 3) := by decide +kernel
theorem dX4_greaterAt_32 : decode cX4_greaterAt 32 = .ok (.ireturn, 1) := by decide +kernel
theorem dX4_nearestWorld_0 : decode cX4_nearestWorld 0 = .ok (.aload_n 0, 1) := by decide +kernel
theorem dX4_nearestWorld_1 : decode cX4_nearestWorld 1 = .ok (.invokevirtual 147, 3) := by decide +kernel
theorem dX4_nearestWorld_4 : decode cX4_nearestWorld 4 = .ok (.ifCond .ne 5, 3) := by decide +kernel
theorem dX4_nearestWorld_7 : decode cX4_nearestWorld 7 = .ok (.iconst (-1), 1) := by decide +kernel
theorem dX4_nearestWorld_8 : decode cX4_nearestWorld 8 = .ok (.ireturn, 1) := by decide +kernel
theorem dX4_nearestWorld_9 : decode cX4_nearestWorld 9 = .ok (.iconst (-1), 1) := by decide +kernel
theorem dX4_nearestWorld_10 : decode cX4_nearestWorld 10 = .ok (.istore_n 1, 1) := by decide +kernel
theorem dX4_nearestWorld_11 : decode cX4_nearestWorld 11 = .ok (.bipush 13, 2) := by decide +kernel
theorem dX4_nearestWorld_13 : decode cX4_nearestWorld 13 = .ok (.istore_n 2, 1) := by decide +kernel
theorem dX4_nearestWorld_14 : decode cX4_nearestWorld 14 = .ok (.iconst 0, 1) := by decide +kernel
theorem dX4_nearestWorld_15 : decode cX4_nearestWorld 15 = .ok (.istore_n 3, 1) := by decide +kernel
theorem dX4_nearestWorld_16 : decode cX4_nearestWorld 16 = .ok (.iload_n 3, 1) := by decide +kernel
theorem dX4_nearestWorld_17 : decode cX4_nearestWorld 17 = .ok (.aload_n 0, 1) := by decide +kernel
theorem dX4_nearestWorld_18 : decode cX4_nearestWorld 18 = .ok (.getfield 47, 3) := by decide +kernel
theorem dX4_nearestWorld_21 : decode cX4_nearestWorld 21 = .ok (.invokevirtual 240, 3) := by decide +kernel
theorem dX4_nearestWorld_24 : decode cX4_nearestWorld 24 = .ok (.if_icmp .ge 46, 3) := by decide +kernel
theorem dX4_nearestWorld_27 : decode cX4_nearestWorld 27 = .ok (.aload_n 0, 1) := by decide +kernel
theorem dX4_nearestWorld_28 : decode cX4_nearestWorld 28 = .ok (.getfield 12, 3) := by decide +kernel
theorem dX4_nearestWorld_31 : decode cX4_nearestWorld 31 = .ok (.getfield 163, 3) := by decide +kernel
theorem dX4_nearestWorld_34 : decode cX4_nearestWorld 34 = .ok (.iload_n 3, 1) := by decide +kernel
theorem dX4_nearestWorld_35 : decode cX4_nearestWorld 35 = .ok (.i2l, 1) := by decide +kernel
theorem dX4_nearestWorld_36 : decode cX4_nearestWorld 36 = .ok (.lxor, 1) := by decide +kernel
theorem dX4_nearestWorld_37 : decode cX4_nearestWorld 37 = .ok (.invokestatic 243, 3) := by decide +kernel
theorem dX4_nearestWorld_40 : decode cX4_nearestWorld 40 = .ok (.istore 4, 2) := by decide +kernel
theorem dX4_nearestWorld_42 : decode cX4_nearestWorld 42 = .ok (.iload 4, 2) := by decide +kernel
theorem dX4_nearestWorld_44 : decode cX4_nearestWorld 44 = .ok (.iload_n 2, 1) := by decide +kernel
theorem dX4_nearestWorld_45 : decode cX4_nearestWorld 45 = .ok (.if_icmp .ge 19, 3) := by decide +kernel
theorem dX4_nearestWorld_48 : decode cX4_nearestWorld 48 = .ok (.aload_n 0, 1) := by decide +kernel
theorem dX4_nearestWorld_49 : decode cX4_nearestWorld 49 = .ok (.getfield 47, 3) := by decide +kernel
theorem dX4_nearestWorld_52 : decode cX4_nearestWorld 52 = .ok (.iload_n 3, 1) := by decide +kernel
theorem dX4_nearestWorld_53 : decode cX4_nearestWorld 53 = .ok (.invokevirtual 248, 3) := by decide +kernel
theorem dX4_nearestWorld_56 : decode cX4_nearestWorld 56 = .ok (.ifCond .eq 8, 3) := by decide +kernel
theorem dX4_nearestWorld_59 : decode cX4_nearestWorld 59 = .ok (.iload_n 3, 1) := by decide +kernel
theorem dX4_nearestWorld_60 : decode cX4_nearestWorld 60 = .ok (.istore_n 1, 1) := by decide +kernel
theorem dX4_nearestWorld_61 : decode cX4_nearestWorld 61 = .ok (.iload 4, 2) := by decide +kernel
theorem dX4_nearestWorld_63 : decode cX4_nearestWorld 63 = .ok (.istore_n 2, 1) := by decide +kernel
theorem dX4_nearestWorld_64 : decode cX4_nearestWorld 64 = .ok (.iinc 3 1, 3) := by decide +kernel
theorem dX4_nearestWorld_67 : decode cX4_nearestWorld 67 = .ok (.goto (-51), 3) := by decide +kernel
theorem dX4_nearestWorld_70 : decode cX4_nearestWorld 70 = .ok (.iload_n 1, 1) := by decide +kernel
theorem dX4_nearestWorld_71 : decode cX4_nearestWorld 71 = .ok (.ireturn, 1) := by decide +kernel
theorem dX4_countGuessWorlds_0 : decode cX4_countGuessWorlds 0 = .ok (.aload_n 0, 1) := by decide +kernel
theorem dX4_countGuessWorlds_1 : decode cX4_countGuessWorlds 1 = .ok (.getfield 12, 3) := by decide +kernel
theorem dX4_countGuessWorlds_4 : decode cX4_countGuessWorlds 4 = .ok (.getfield 251, 3) := by decide +kernel
theorem dX4_countGuessWorlds_7 : decode cX4_countGuessWorlds 7 = .ok (.ifnull 10, 3) := by decide +kernel
theorem dX4_countGuessWorlds_10 : decode cX4_countGuessWorlds 10 = .ok (.aload_n 0, 1) := by decide +kernel
theorem dX4_countGuessWorlds_11 : decode cX4_countGuessWorlds 11 = .ok (.invokevirtual 147, 3) := by decide +kernel
theorem dX4_countGuessWorlds_14 : decode cX4_countGuessWorlds 14 = .ok (.ifCond .ne 5, 3) := by decide +kernel
theorem dX4_countGuessWorlds_17 : decode cX4_countGuessWorlds 17 = .ok (.iconst (-1), 1) := by decide +kernel
theorem dX4_countGuessWorlds_18 : decode cX4_countGuessWorlds 18 = .ok (.ireturn, 1) := by decide +kernel
theorem dX4_countGuessWorlds_19 : decode cX4_countGuessWorlds 19 = .ok (.aload_n 0, 1) := by decide +kernel
theorem dX4_countGuessWorlds_20 : decode cX4_countGuessWorlds 20 = .ok (.getfield 47, 3) := by decide +kernel
theorem dX4_countGuessWorlds_23 : decode cX4_countGuessWorlds 23 = .ok (.aload_n 0, 1) := by decide +kernel
theorem dX4_countGuessWorlds_24 : decode cX4_countGuessWorlds 24 = .ok (.bipush 8, 2) := by decide +kernel
theorem dX4_countGuessWorlds_26 : decode cX4_countGuessWorlds 26 = .ok (.aload_n 0, 1) := by decide +kernel
theorem dX4_countGuessWorlds_27 : decode cX4_countGuessWorlds 27 = .ok (.getfield 12, 3) := by decide +kernel
theorem dX4_countGuessWorlds_30 : decode cX4_countGuessWorlds 30 = .ok (.getfield 251, 3) := by decide +kernel
theorem dX4_countGuessWorlds_33 : decode cX4_countGuessWorlds 33 = .ok (.invokevirtual 98, 3) := by decide +kernel
theorem dX4_countGuessWorlds_36 : decode cX4_countGuessWorlds 36 = .ok (.invokevirtual 102, 3) := by decide +kernel
theorem dX4_countGuessWorlds_39 : decode cX4_countGuessWorlds 39 = .ok (.aload_n 0, 1) := by decide +kernel
theorem dX4_countGuessWorlds_40 : decode cX4_countGuessWorlds 40 = .ok (.getfield 47, 3) := by decide +kernel
theorem dX4_countGuessWorlds_43 : decode cX4_countGuessWorlds 43 = .ok (.invokevirtual 150, 3) := by decide +kernel
theorem dX4_countGuessWorlds_46 : decode cX4_countGuessWorlds 46 = .ok (.ireturn, 1) := by decide +kernel
theorem dX4_countGuessForms_0 : decode cX4_countGuessForms 0 = .ok (.aload_n 0, 1) := by decide +kernel
theorem dX4_countGuessForms_1 : decode cX4_countGuessForms 1 = .ok (.getfield 12, 3) := by decide +kernel
theorem dX4_countGuessForms_4 : decode cX4_countGuessForms 4 = .ok (.getfield 251, 3) := by decide +kernel
theorem dX4_countGuessForms_7 : decode cX4_countGuessForms 7 = .ok (.ifnull 10, 3) := by decide +kernel
theorem dX4_countGuessForms_10 : decode cX4_countGuessForms 10 = .ok (.aload_n 0, 1) := by decide +kernel
theorem dX4_countGuessForms_11 : decode cX4_countGuessForms 11 = .ok (.invokevirtual 147, 3) := by decide +kernel
theorem dX4_countGuessForms_14 : decode cX4_countGuessForms 14 = .ok (.ifCond .ne 5, 3) := by decide +kernel
theorem dX4_countGuessForms_17 : decode cX4_countGuessForms 17 = .ok (.iconst (-1), 1) := by decide +kernel
theorem dX4_countGuessForms_18 : decode cX4_countGuessForms 18 = .ok (.ireturn, 1) := by decide +kernel
theorem dX4_countGuessForms_19 : decode cX4_countGuessForms 19 = .ok (.aload_n 0, 1) := by decide +kernel
theorem dX4_countGuessForms_20 : decode cX4_countGuessForms 20 = .ok (.invokevirtual 157, 3) := by decide +kernel
theorem dX4_countGuessForms_23 : decode cX4_countGuessForms 23 = .ok (.aload_n 0, 1) := by decide +kernel
theorem dX4_countGuessForms_24 : decode cX4_countGuessForms 24 = .ok (.getfield 50, 3) := by decide +kernel
theorem dX4_countGuessForms_27 : decode cX4_countGuessForms 27 = .ok (.aload_n 0, 1) := by decide +kernel
theorem dX4_countGuessForms_28 : decode cX4_countGuessForms 28 = .ok (.bipush 8, 2) := by decide +kernel
theorem dX4_countGuessForms_30 : decode cX4_countGuessForms 30 = .ok (.aload_n 0, 1) := by decide +kernel
theorem dX4_countGuessForms_31 : decode cX4_countGuessForms 31 = .ok (.getfield 12, 3) := by decide +kernel
theorem dX4_countGuessForms_34 : decode cX4_countGuessForms 34 = .ok (.getfield 251, 3) := by decide +kernel
theorem dX4_countGuessForms_37 : decode cX4_countGuessForms 37 = .ok (.invokevirtual 98, 3) := by decide +kernel
theorem dX4_countGuessForms_40 : decode cX4_countGuessForms 40 = .ok (.invokevirtual 102, 3) := by decide +kernel
theorem dX4_countGuessForms_43 : decode cX4_countGuessForms 43 = .ok (.aload_n 0, 1) := by decide +kernel
theorem dX4_countGuessForms_44 : decode cX4_countGuessForms 44 = .ok (.getfield 50, 3) := by decide +kernel
theorem dX4_countGuessForms_47 : decode cX4_countGuessForms 47 = .ok (.invokevirtual 150, 3) := by decide +kernel
theorem dX4_countGuessForms_50 : decode cX4_countGuessForms 50 = .ok (.ireturn, 1) := by decide +kernel
theorem dX4_formAgainst_0 : decode cX4_formAgainst 0 = .ok (.aload_n 0, 1) := by decide +kernel
theorem dX4_formAgainst_1 : decode cX4_formAgainst 1 = .ok (.getfield 12, 3) := by decide +kernel
theorem dX4_formAgainst_4 : decode cX4_formAgainst 4 = .ok (.getfield 251, 3) := by decide +kernel
theorem dX4_formAgainst_7 : decode cX4_formAgainst 7 = .ok (.ifnull 10, 3) := by decide +kernel
theorem dX4_formAgainst_10 : decode cX4_formAgainst 10 = .ok (.aload_n 0, 1) := by decide +kernel
theorem dX4_formAgainst_11 : decode cX4_formAgainst 11 = .ok (.invokevirtual 147, 3) := by decide +kernel
theorem dX4_formAgainst_14 : decode cX4_formAgainst 14 = .ok (.ifCond .ne 5, 3) := by decide +kernel
theorem dX4_formAgainst_17 : decode cX4_formAgainst 17 = .ok (.iconst (-1), 1) := by decide +kernel
theorem dX4_formAgainst_18 : decode cX4_formAgainst 18 = .ok (.ireturn, 1) := by decide +kernel
theorem dX4_formAgainst_19 : decode cX4_formAgainst 19 = .ok (.aload_n 0, 1) := by decide +kernel
theorem dX4_formAgainst_20 : decode cX4_formAgainst 20 = .ok (.invokevirtual 157, 3) := by decide +kernel
theorem dX4_formAgainst_23 : decode cX4_formAgainst 23 = .ok (.aload_n 0, 1) := by decide +kernel
theorem dX4_formAgainst_24 : decode cX4_formAgainst 24 = .ok (.getfield 50, 3) := by decide +kernel
theorem dX4_formAgainst_27 : decode cX4_formAgainst 27 = .ok (.aload_n 0, 1) := by decide +kernel
theorem dX4_formAgainst_28 : decode cX4_formAgainst 28 = .ok (.bipush 8, 2) := by decide +kernel
theorem dX4_formAgainst_30 : decode cX4_formAgainst 30 = .ok (.aload_n 0, 1) := by decide +kernel
theorem dX4_formAgainst_31 : decode cX4_formAgainst 31 = .ok (.getfield 12, 3) := by decide +kernel
theorem dX4_formAgainst_34 : decode cX4_formAgainst 34 = .ok (.getfield 251, 3) := by decide +kernel
theorem dX4_formAgainst_37 : decode cX4_formAgainst 37 = .ok (.invokevirtual 98, 3) := by decide +kernel
theorem dX4_formAgainst_40 : decode cX4_formAgainst 40 = .ok (.invokevirtual 255, 3) := by decide +kernel
theorem dX4_formAgainst_43 : decode cX4_formAgainst 43 = .ok (.aload_n 0, 1) := by decide +kernel
theorem dX4_formAgainst_44 : decode cX4_formAgainst 44 = .ok (.getfield 50, 3) := by decide +kernel
theorem dX4_formAgainst_47 : decode cX4_formAgainst 47 = .ok (.iconst 0, 1) := by decide +kernel
theorem dX4_formAgainst_48 : decode cX4_formAgainst 48 = .ok (.invokevirtual 160, 3) := by decide +kernel
theorem dX4_formAgainst_51 : decode cX4_formAgainst 51 = .ok (.ireturn, 1) := by decide +kernel
theorem dX5_init_0 : decode cX5_init 0 = .ok (.aload_n 0, 1) := by decide +kernel
theorem dX5_init_1 : decode cX5_init 1 = .ok (.invokespecial 3, 3) := by decide +kernel
theorem dX5_init_4 : decode cX5_init 4 = .ok (.aload_n 0, 1) := by decide +kernel
theorem dX5_init_5 : decode cX5_init 5 = .ok (.iconst 0, 1) := by decide +kernel
theorem dX5_init_6 : decode cX5_init 6 = .ok (.putfield 9, 3) := by decide +kernel
theorem dX5_init_9 : decode cX5_init 9 = .ok (.iconst 0, 1) := by decide +kernel
theorem dX5_init_10 : decode cX5_init 10 = .ok (.iload_n 1, 1) := by decide +kernel
theorem dX5_init_11 : decode cX5_init 11 = .ok (.invokestatic 15, 3) := by decide +kernel
theorem dX5_init_14 : decode cX5_init 14 = .ok (.istore_n 2, 1) := by decide +kernel
theorem dX5_init_15 : decode cX5_init 15 = .ok (.aload_n 0, 1) := by decide +kernel
theorem dX5_init_16 : decode cX5_init 16 = .ok (.iload_n 2, 1) := by decide +kernel
theorem dX5_init_17 : decode cX5_init 17 = .ok (.newarray .int, 2) := by decide +kernel
theorem dX5_init_19 : decode cX5_init 19 = .ok (.putfield 21, 3) := by decide +kernel
theorem dX5_init_22 : decode cX5_init 22 = .ok (.aload_n 0, 1) := by decide +kernel
theorem dX5_init_23 : decode cX5_init 23 = .ok (.iload_n 2, 1) := by decide +kernel
theorem dX5_init_24 : decode cX5_init 24 = .ok (.newarray .int, 2) := by decide +kernel
theorem dX5_init_26 : decode cX5_init 26 = .ok (.putfield 25, 3) := by decide +kernel
theorem dX5_init_29 : decode cX5_init 29 = .ok (.aload_n 0, 1) := by decide +kernel
theorem dX5_init_30 : decode cX5_init 30 = .ok (.iload_n 2, 1) := by decide +kernel
theorem dX5_init_31 : decode cX5_init 31 = .ok (.newarray .int, 2) := by decide +kernel
theorem dX5_init_33 : decode cX5_init 33 = .ok (.putfield 28, 3) := by decide +kernel
theorem dX5_init_36 : decode cX5_init 36 = .ok (.aload_n 0, 1) := by decide +kernel
theorem dX5_init_37 : decode cX5_init 37 = .ok (.iload_n 2, 1) := by decide +kernel
theorem dX5_init_38 : decode cX5_init 38 = .ok (.newarray .int, 2) := by decide +kernel
theorem dX5_init_40 : decode cX5_init 40 = .ok (.putfield 31, 3) := by decide +kernel
theorem dX5_init_43 : decode cX5_init 43 = .ok (.aload_n 0, 1) := by decide +kernel
theorem dX5_init_44 : decode cX5_init 44 = .ok (.iload_n 2, 1) := by decide +kernel
theorem dX5_init_45 : decode cX5_init 45 = .ok (.newarray .int, 2) := by decide +kernel
theorem dX5_init_47 : decode cX5_init 47 = .ok (.putfield 34, 3) := by decide +kernel
theorem dX5_init_50 : decode cX5_init 50 = .ok (.return_, 1) := by decide +kernel
theorem dX5_write_0 : decode cX5_write 0 = .ok (.aload_n 0, 1) := by decide +kernel
theorem dX5_write_1 : decode cX5_write 1 = .ok (.getfield 9, 3) := by decide +kernel
theorem dX5_write_4 : decode cX5_write 4 = .ok (.aload_n 0, 1) := by decide +kernel
theorem dX5_write_5 : decode cX5_write 5 = .ok (.getfield 21, 3) := by decide +kernel
theorem dX5_write_8 : decode cX5_write 8 = .ok (.arraylength, 1) := by decide +kernel
theorem dX5_write_9 : decode cX5_write 9 = .ok (.if_icmp .ge 44, 3) := by decide +kernel
theorem dX5_write_12 : decode cX5_write 12 = .ok (.aload_n 0, 1) := by decide +kernel
theorem dX5_write_13 : decode cX5_write 13 = .ok (.getfield 21, 3) := by decide +kernel
theorem dX5_write_16 : decode cX5_write 16 = .ok (.aload_n 0, 1) := by decide +kernel
theorem dX5_write_17 : decode cX5_write 17 = .ok (.getfield 9, 3) := by decide +kernel
theorem dX5_write_20 : decode cX5_write 20 = .ok (.iload_n 1, 1) := by decide +kernel
theorem dX5_write_21 : decode cX5_write 21 = .ok (.iastore, 1) := by decide +kernel
theorem dX5_write_22 : decode cX5_write 22 = .ok (.aload_n 0, 1) := by decide +kernel
theorem dX5_write_23 : decode cX5_write 23 = .ok (.getfield 25, 3) := by decide +kernel
theorem dX5_write_26 : decode cX5_write 26 = .ok (.aload_n 0, 1) := by decide +kernel
theorem dX5_write_27 : decode cX5_write 27 = .ok (.getfield 9, 3) := by decide +kernel
theorem dX5_write_30 : decode cX5_write 30 = .ok (.iload_n 2, 1) := by decide +kernel
theorem dX5_write_31 : decode cX5_write 31 = .ok (.iastore, 1) := by decide +kernel
theorem dX5_write_32 : decode cX5_write 32 = .ok (.aload_n 0, 1) := by decide +kernel
theorem dX5_write_33 : decode cX5_write 33 = .ok (.getfield 28, 3) := by decide +kernel
theorem dX5_write_36 : decode cX5_write 36 = .ok (.aload_n 0, 1) := by decide +kernel
theorem dX5_write_37 : decode cX5_write 37 = .ok (.getfield 9, 3) := by decide +kernel
theorem dX5_write_40 : decode cX5_write 40 = .ok (.iload_n 3, 1) := by decide +kernel
theorem dX5_write_41 : decode cX5_write 41 = .ok (.iastore, 1) := by decide +kernel
theorem dX5_write_42 : decode cX5_write 42 = .ok (.aload_n 0, 1) := by decide +kernel
theorem dX5_write_43 : decode cX5_write 43 = .ok (.getfield 31, 3) := by decide +kernel
theorem dX5_write_46 : decode cX5_write 46 = .ok (.aload_n 0, 1) := by decide +kernel
theorem dX5_write_47 : decode cX5_write 47 = .ok (.getfield 9, 3) := by decide +kernel
theorem dX5_write_50 : decode cX5_write 50 = .ok (.iload 4, 2) := by decide +kernel
theorem dX5_write_52 : decode cX5_write 52 = .ok (.iastore, 1) := by decide +kernel
theorem dX5_write_53 : decode cX5_write 53 = .ok (.aload_n 0, 1) := by decide +kernel
theorem dX5_write_54 : decode cX5_write 54 = .ok (.dup, 1) := by decide +kernel
theorem dX5_write_55 : decode cX5_write 55 = .ok (.getfield 9, 3) := by decide +kernel
theorem dX5_write_58 : decode cX5_write 58 = .ok (.iconst 1, 1) := by decide +kernel
theorem dX5_write_59 : decode cX5_write 59 = .ok (.iadd, 1) := by decide +kernel
theorem dX5_write_60 : decode cX5_write 60 = .ok (.putfield 9, 3) := by decide +kernel
theorem dX5_write_63 : decode cX5_write 63 = .ok (.return_, 1) := by decide +kernel
theorem dX5_finished_0 : decode cX5_finished 0 = .ok (.new 10, 3) := by decide +kernel
theorem dX5_finished_3 : decode cX5_finished 3 = .ok (.dup, 1) := by decide +kernel
theorem dX5_finished_4 : decode cX5_finished 4 = .ok (.aload_n 0, 1) := by decide +kernel
theorem dX5_finished_5 : decode cX5_finished 5 = .ok (.getfield 9, 3) := by decide +kernel
theorem dX5_finished_8 : decode cX5_finished 8 = .ok (.invokespecial 37, 3) := by decide +kernel
theorem dX5_finished_11 : decode cX5_finished 11 = .ok (.astore_n 1, 1) := by decide +kernel
theorem dX5_finished_12 : decode cX5_finished 12 = .ok (.iconst 0, 1) := by decide +kernel
theorem dX5_finished_13 : decode cX5_finished 13 = .ok (.istore_n 2, 1) := by decide +kernel
theorem dX5_finished_14 : decode cX5_finished 14 = .ok (.iload_n 2, 1) := by decide +kernel
theorem dX5_finished_15 : decode cX5_finished 15 = .ok (.aload_n 0, 1) := by decide +kernel
theorem dX5_finished_16 : decode cX5_finished 16 = .ok (.getfield 9, 3) := by decide +kernel
theorem dX5_finished_19 : decode cX5_finished 19 = .ok (.if_icmp .ge 46, 3) := by decide +kernel
theorem dX5_finished_22 : decode cX5_finished 22 = .ok (.iload_n 2, 1) := by decide +kernel
theorem dX5_finished_23 : decode cX5_finished 23 = .ok (.aload_n 0, 1) := by decide +kernel
theorem dX5_finished_24 : decode cX5_finished 24 = .ok (.getfield 21, 3) := by decide +kernel
theorem dX5_finished_27 : decode cX5_finished 27 = .ok (.arraylength, 1) := by decide +kernel
theorem dX5_finished_28 : decode cX5_finished 28 = .ok (.if_icmp .ge 37, 3) := by decide +kernel
theorem dX5_finished_31 : decode cX5_finished 31 = .ok (.aload_n 1, 1) := by decide +kernel
theorem dX5_finished_32 : decode cX5_finished 32 = .ok (.aload_n 0, 1) := by decide +kernel
theorem dX5_finished_33 : decode cX5_finished 33 = .ok (.getfield 21, 3) := by decide +kernel
theorem dX5_finished_36 : decode cX5_finished 36 = .ok (.iload_n 2, 1) := by decide +kernel
theorem dX5_finished_37 : decode cX5_finished 37 = .ok (.iaload, 1) := by decide +kernel
theorem dX5_finished_38 : decode cX5_finished 38 = .ok (.aload_n 0, 1) := by decide +kernel
theorem dX5_finished_39 : decode cX5_finished 39 = .ok (.getfield 25, 3) := by decide +kernel
theorem dX5_finished_42 : decode cX5_finished 42 = .ok (.iload_n 2, 1) := by decide +kernel
theorem dX5_finished_43 : decode cX5_finished 43 = .ok (.iaload, 1) := by decide +kernel
theorem dX5_finished_44 : decode cX5_finished 44 = .ok (.aload_n 0, 1) := by decide +kernel
theorem dX5_finished_45 : decode cX5_finished 45 = .ok (.getfield 28, 3) := by decide +kernel
theorem dX5_finished_48 : decode cX5_finished 48 = .ok (.iload_n 2, 1) := by decide +kernel
theorem dX5_finished_49 : decode cX5_finished 49 = .ok (.iaload, 1) := by decide +kernel
theorem dX5_finished_50 : decode cX5_finished 50 = .ok (.aload_n 0, 1) := by decide +kernel
theorem dX5_finished_51 : decode cX5_finished 51 = .ok (.getfield 31, 3) := by decide +kernel
theorem dX5_finished_54 : decode cX5_finished 54 = .ok (.iload_n 2, 1) := by decide +kernel
theorem dX5_finished_55 : decode cX5_finished 55 = .ok (.iaload, 1) := by decide +kernel
theorem dX5_finished_56 : decode cX5_finished 56 = .ok (.invokevirtual 40, 3) := by decide +kernel
theorem dX5_finished_59 : decode cX5_finished 59 = .ok (.iinc 2 1, 3) := by decide +kernel
theorem dX5_finished_62 : decode cX5_finished 62 = .ok (.goto (-48), 3) := by decide +kernel
theorem dX5_finished_65 : decode cX5_finished 65 = .ok (.aload_n 1, 1) := by decide +kernel
theorem dX5_finished_66 : decode cX5_finished 66 = .ok (.invokevirtual 44, 3) := by decide +kernel
theorem dX5_finished_69 : decode cX5_finished 69 = .ok (.aload_n 1, 1) := by decide +kernel
theorem dX5_finished_70 : decode cX5_finished 70 = .ok (.areturn, 1) := by decide +kernel
theorem dX5_findBehind_0 : decode cX5_findBehind 0 = .ok (.aload_n 0, 1) := by decide +kernel
theorem dX5_findBehind_1 : decode cX5_findBehind 1 = .ok (.getfield 21, 3) := by decide +kernel
theorem dX5_findBehind_4 : decode cX5_findBehind 4 = .ok (.arraylength, 1) := by decide +kernel
theorem dX5_findBehind_5 : decode cX5_findBehind 5 = .ok (.iconst 1, 1) := by decide +kernel
theorem dX5_findBehind_6 : decode cX5_findBehind 6 = .ok (.isub, 1) := by decide +kernel
theorem dX5_findBehind_7 : decode cX5_findBehind 7 = .ok (.istore_n 1, 1) := by decide +kernel
theorem dX5_findBehind_8 : decode cX5_findBehind 8 = .ok (.iload_n 1, 1) := by decide +kernel
theorem dX5_findBehind_9 : decode cX5_findBehind 9 = .ok (.ifCond .lt 64, 3) := by decide +kernel
theorem dX5_findBehind_12 : decode cX5_findBehind 12 = .ok (.iload_n 1, 1) := by decide +kernel
theorem dX5_findBehind_13 : decode cX5_findBehind 13 = .ok (.iconst 1, 1) := by decide +kernel
theorem dX5_findBehind_14 : decode cX5_findBehind 14 = .ok (.iadd, 1) := by decide +kernel
theorem dX5_findBehind_15 : decode cX5_findBehind 15 = .ok (.istore_n 2, 1) := by decide +kernel
theorem dX5_findBehind_16 : decode cX5_findBehind 16 = .ok (.aload_n 0, 1) := by decide +kernel
theorem dX5_findBehind_17 : decode cX5_findBehind 17 = .ok (.getfield 21, 3) := by decide +kernel
theorem dX5_findBehind_20 : decode cX5_findBehind 20 = .ok (.iload_n 1, 1) := by decide +kernel
theorem dX5_findBehind_21 : decode cX5_findBehind 21 = .ok (.iaload, 1) := by decide +kernel
theorem dX5_findBehind_22 : decode cX5_findBehind 22 = .ok (.invokestatic 47, 3) := by decide +kernel
theorem dX5_findBehind_25 : decode cX5_findBehind 25 = .ok (.istore_n 3, 1) := by decide +kernel
theorem dX5_findBehind_26 : decode cX5_findBehind 26 = .ok (.iload_n 3, 1) := by decide +kernel
theorem dX5_findBehind_27 : decode cX5_findBehind 27 = .ok (.ifCond .le 33, 3) := by decide +kernel
theorem dX5_findBehind_30 : decode cX5_findBehind 30 = .ok (.iload_n 2, 1) := by decide +kernel
theorem dX5_findBehind_31 : decode cX5_findBehind 31 = .ok (.aload_n 0, 1) := by decide +kernel
theorem dX5_findBehind_32 : decode cX5_findBehind 32 = .ok (.getfield 21, 3) := by decide +kernel
theorem dX5_findBehind_35 : decode cX5_findBehind 35 = .ok (.arraylength, 1) := by decide +kernel
theorem dX5_findBehind_36 : decode cX5_findBehind 36 = .ok (.if_icmp .ge 12, 3) := by decide +kernel
theorem dX5_findBehind_39 : decode cX5_findBehind 39 = .ok (.aload_n 0, 1) := by decide +kernel
theorem dX5_findBehind_40 : decode cX5_findBehind 40 = .ok (.getfield 34, 3) := by decide +kernel
theorem dX5_findBehind_43 : decode cX5_findBehind 43 = .ok (.iload_n 2, 1) := by decide +kernel
theorem dX5_findBehind_44 : decode cX5_findBehind 44 = .ok (.iaload, 1) := by decide +kernel
theorem dX5_findBehind_45 : decode cX5_findBehind 45 = .ok (.goto 8, 3) := by decide +kernel
theorem dX5_findBehind_48 : decode cX5_findBehind 48 = .ok (.aload_n 0, 1) := by decide +kernel
theorem dX5_findBehind_49 : decode cX5_findBehind 49 = .ok (.getfield 21, 3) := by decide +kernel
theorem dX5_findBehind_52 : decode cX5_findBehind 52 = .ok (.arraylength, 1) := by decide +kernel
theorem dX5_findBehind_53 : decode cX5_findBehind 53 = .ok (.istore_n 2, 1) := by decide +kernel
theorem dX5_findBehind_54 : decode cX5_findBehind 54 = .ok (.iinc 3 (-1), 3) := by decide +kernel
theorem dX5_findBehind_57 : decode cX5_findBehind 57 = .ok (.goto (-31), 3) := by decide +kernel
theorem dX5_findBehind_60 : decode cX5_findBehind 60 = .ok (.aload_n 0, 1) := by decide +kernel
theorem dX5_findBehind_61 : decode cX5_findBehind 61 = .ok (.getfield 34, 3) := by decide +kernel
theorem dX5_findBehind_64 : decode cX5_findBehind 64 = .ok (.iload_n 1, 1) := by decide +kernel
theorem dX5_findBehind_65 : decode cX5_findBehind 65 = .ok (.iload_n 2, 1) := by decide +kernel
theorem dX5_findBehind_66 : decode cX5_findBehind 66 = .ok (.iastore, 1) := by decide +kernel
theorem dX5_findBehind_67 : decode cX5_findBehind 67 = .ok (.iinc 1 (-1), 3) := by decide +kernel
theorem dX5_findBehind_70 : decode cX5_findBehind 70 = .ok (.goto (-62), 3) := by decide +kernel
theorem dX5_findBehind_73 : decode cX5_findBehind 73 = .ok (.return_, 1) := by decide +kernel
theorem dX5_partsInside_0 : decode cX5_partsInside 0 = .ok (.iload_n 0, 1) := by decide +kernel
theorem dX5_partsInside_1 : decode cX5_partsInside 1 = .ok (.tableswitch 51 0 7 #[47, 47, 47, 47, 47, 49, 49, 49], 47) := by decide +kernel
theorem dX5_partsInside_48 : decode cX5_partsInside 48 = .ok (.iconst 1, 1) := by decide +kernel
theorem dX5_partsInside_49 : decode cX5_partsInside 49 = .ok (.ireturn, 1) := by decide +kernel
theorem dX5_partsInside_50 : decode cX5_partsInside 50 = .ok (.iconst 2, 1) := by decide +kernel
theorem dX5_partsInside_51 : decode cX5_partsInside 51 = .ok (.ireturn, 1) := by decide +kernel
theorem dX5_partsInside_52 : decode cX5_partsInside 52 = .ok (.iconst 0, 1) := by decide +kernel
theorem dX5_partsInside_53 : decode cX5_partsInside 53 = .ok (.ireturn, 1) := by decide +kernel
theorem dX5_leadingAlls_0 : decode cX5_leadingAlls 0 = .ok (.iconst 0, 1) := by decide +kernel
theorem dX5_leadingAlls_1 : decode cX5_leadingAlls 1 = .ok (.istore_n 1, 1) := by decide +kernel
theorem dX5_leadingAlls_2 : decode cX5_leadingAlls 2 = .ok (.iload_n 1, 1) := by decide +kernel
theorem dX5_leadingAlls_3 : decode cX5_leadingAlls 3 = .ok (.aload_n 0, 1) := by decide +kernel
theorem dX5_leadingAlls_4 : decode cX5_leadingAlls 4 = .ok (.getfield 9, 3) := by decide +kernel
theorem dX5_leadingAlls_7 : decode cX5_leadingAlls 7 = .ok (.if_icmp .ge 23, 3) := by decide +kernel
theorem dX5_leadingAlls_10 : decode cX5_leadingAlls 10 = .ok (.iload_n 1, 1) := by decide +kernel
theorem dX5_leadingAlls_11 : decode cX5_leadingAlls 11 = .ok (.iconst 4, 1) := by decide +kernel
theorem dX5_leadingAlls_12 : decode cX5_leadingAlls 12 = .ok (.if_icmp .ge 18, 3) := by decide +kernel
theorem dX5_leadingAlls_15 : decode cX5_leadingAlls 15 = .ok (.aload_n 0, 1) := by decide +kernel
theorem dX5_leadingAlls_16 : decode cX5_leadingAlls 16 = .ok (.getfield 21, 3) := by decide +kernel
theorem dX5_leadingAlls_19 : decode cX5_leadingAlls 19 = .ok (.iload_n 1, 1) := by decide +kernel
theorem dX5_leadingAlls_20 : decode cX5_leadingAlls 20 = .ok (.iaload, 1) := by decide +kernel
theorem dX5_leadingAlls_21 : decode cX5_leadingAlls 21 = .ok (.ifCond .ne 9, 3) := by decide +kernel
theorem dX5_leadingAlls_24 : decode cX5_leadingAlls 24 = .ok (.iinc 1 1, 3) := by decide +kernel
theorem dX5_leadingAlls_27 : decode cX5_leadingAlls 27 = .ok (.goto (-25), 3) := by decide +kernel
theorem dX5_leadingAlls_30 : decode cX5_leadingAlls 30 = .ok (.iload_n 1, 1) := by decide +kernel
theorem dX5_leadingAlls_31 : decode cX5_leadingAlls 31 = .ok (.ireturn, 1) := by decide +kernel
theorem dX6_init_0 : decode cX6_init 0 = .ok (.aload_n 0, 1) := by decide +kernel
theorem dX6_init_1 : decode cX6_init 1 = .ok (.invokespecial 3, 3) := by decide +kernel
theorem dX6_init_4 : decode cX6_init 4 = .ok (.aload_n 0, 1) := by decide +kernel
theorem dX6_init_5 : decode cX6_init 5 = .ok (.new 9, 3) := by decide +kernel
theorem dX6_init_8 : decode cX6_init 8 = .ok (.dup, 1) := by decide +kernel
theorem dX6_init_9 : decode cX6_init 9 = .ok (.invokespecial 11, 3) := by decide +kernel
theorem dX6_init_12 : decode cX6_init 12 = .ok (.putfield 12, 3) := by decide +kernel
theorem dX6_init_15 : decode cX6_init 15 = .ok (.aload_n 0, 1) := by decide +kernel
theorem dX6_init_16 : decode cX6_init 16 = .ok (.lconst 0, 1) := by decide +kernel
theorem dX6_init_17 : decode cX6_init 17 = .ok (.putfield 18, 3) := by decide +kernel
theorem dX6_init_20 : decode cX6_init 20 = .ok (.aload_n 0, 1) := by decide +kernel
theorem dX6_init_21 : decode cX6_init 21 = .ok (.iconst 4, 1) := by decide +kernel
theorem dX6_init_22 : decode cX6_init 22 = .ok (.newarray .long, 2) := by decide +kernel
theorem dX6_init_24 : decode cX6_init 24 = .ok (.putfield 22, 3) := by decide +kernel
theorem dX6_init_27 : decode cX6_init 27 = .ok (.aload_n 0, 1) := by decide +kernel
theorem dX6_init_28 : decode cX6_init 28 = .ok (.iconst 4, 1) := by decide +kernel
theorem dX6_init_29 : decode cX6_init 29 = .ok (.newarray .boolean, 2) := by decide +kernel
theorem dX6_init_31 : decode cX6_init 31 = .ok (.putfield 26, 3) := by decide +kernel
theorem dX6_init_34 : decode cX6_init 34 = .ok (.aload_n 0, 1) := by decide +kernel
theorem dX6_init_35 : decode cX6_init 35 = .ok (.sipush 400, 3) := by decide +kernel
theorem dX6_init_38 : decode cX6_init 38 = .ok (.newarray .int, 2) := by decide +kernel
theorem dX6_init_40 : decode cX6_init 40 = .ok (.putfield 30, 3) := by decide +kernel
theorem dX6_init_43 : decode cX6_init 43 = .ok (.aload_n 0, 1) := by decide +kernel
theorem dX6_init_44 : decode cX6_init 44 = .ok (.iconst 0, 1) := by decide +kernel
theorem dX6_init_45 : decode cX6_init 45 = .ok (.putfield 34, 3) := by decide +kernel
theorem dX6_init_48 : decode cX6_init 48 = .ok (.aload_n 0, 1) := by decide +kernel
theorem dX6_init_49 : decode cX6_init 49 = .ok (.iconst 0, 1) := by decide +kernel
theorem dX6_init_50 : decode cX6_init 50 = .ok (.putfield 38, 3) := by decide +kernel
theorem dX6_init_53 : decode cX6_init 53 = .ok (.aload_n 0, 1) := by decide +kernel
theorem dX6_init_54 : decode cX6_init 54 = .ok (.iconst (-1), 1) := by decide +kernel
theorem dX6_init_55 : decode cX6_init 55 = .ok (.putfield 41, 3) := by decide +kernel
theorem dX6_init_58 : decode cX6_init 58 = .ok (.aload_n 0, 1) := by decide +kernel
theorem dX6_init_59 : decode cX6_init 59 = .ok (.bipush 8, 2) := by decide +kernel
theorem dX6_init_61 : decode cX6_init 61 = .ok (.anewarray 44, 3) := by decide +kernel
theorem dX6_init_64 : decode cX6_init 64 = .ok (.putfield 46, 3) := by decide +kernel
theorem dX6_init_67 : decode cX6_init 67 = .ok (.aload_n 0, 1) := by decide +kernel
theorem dX6_init_68 : decode cX6_init 68 = .ok (.bipush 8, 2) := by decide +kernel
theorem dX6_init_70 : decode cX6_init 70 = .ok (.newarray .int, 2) := by decide +kernel
theorem dX6_init_72 : decode cX6_init 72 = .ok (.putfield 50, 3) := by decide +kernel
theorem dX6_init_75 : decode cX6_init 75 = .ok (.aload_n 0, 1) := by decide +kernel
theorem dX6_init_76 : decode cX6_init 76 = .ok (.bipush 8, 2) := by decide +kernel
theorem dX6_init_78 : decode cX6_init 78 = .ok (.newarray .int, 2) := by decide +kernel
theorem dX6_init_80 : decode cX6_init 80 = .ok (.putfield 53, 3) := by decide +kernel
theorem dX6_init_83 : decode cX6_init 83 = .ok (.aload_n 0, 1) := by decide +kernel
theorem dX6_init_84 : decode cX6_init 84 = .ok (.iconst 0, 1) := by decide +kernel
theorem dX6_init_85 : decode cX6_init 85 = .ok (.putfield 56, 3) := by decide +kernel
theorem dX6_init_88 : decode cX6_init 88 = .ok (.aload_n 0, 1) := by decide +kernel
theorem dX6_init_89 : decode cX6_init 89 = .ok (.aconst_null, 1) := by decide +kernel
theorem dX6_init_90 : decode cX6_init 90 = .ok (.putfield 59, 3) := by decide +kernel
theorem dX6_init_93 : decode cX6_init 93 = .ok (.aload_n 0, 1) := by decide +kernel
theorem dX6_init_94 : decode cX6_init 94 = .ok (.iconst 0, 1) := by decide +kernel
theorem dX6_init_95 : decode cX6_init 95 = .ok (.putfield 63, 3) := by decide +kernel
theorem dX6_init_98 : decode cX6_init 98 = .ok (.aload_n 0, 1) := by decide +kernel
theorem dX6_init_99 : decode cX6_init 99 = .ok (.iconst (-1), 1) := by decide +kernel
theorem dX6_init_100 : decode cX6_init 100 = .ok (.putfield 66, 3) := by decide +kernel
theorem dX6_init_103 : decode cX6_init 103 = .ok (.aload_n 0, 1) := by decide +kernel
theorem dX6_init_104 : decode cX6_init 104 = .ok (.bipush 40, 2) := by decide +kernel
theorem dX6_init_106 : decode cX6_init 106 = .ok (.newarray .int, 2) := by decide +kernel
theorem dX6_init_108 : decode cX6_init 108 = .ok (.putfield 69, 3) := by decide +kernel
theorem dX6_init_111 : decode cX6_init 111 = .ok (.aload_n 0, 1) := by decide +kernel
theorem dX6_init_112 : decode cX6_init 112 = .ok (.bipush 40, 2) := by decide +kernel
theorem dX6_init_114 : decode cX6_init 114 = .ok (.newarray .boolean, 2) := by decide +kernel
theorem dX6_init_116 : decode cX6_init 116 = .ok (.putfield 72, 3) := by decide +kernel
theorem dX6_init_119 : decode cX6_init 119 = .ok (.aload_n 0, 1) := by decide +kernel
theorem dX6_init_120 : decode cX6_init 120 = .ok (.bipush 40, 2) := by decide +kernel
theorem dX6_init_122 : decode cX6_init 122 = .ok (.newarray .int, 2) := by decide +kernel
theorem dX6_init_124 : decode cX6_init 124 = .ok (.putfield 75, 3) := by decide +kernel
theorem dX6_init_127 : decode cX6_init 127 = .ok (.aload_n 0, 1) := by decide +kernel
theorem dX6_init_128 : decode cX6_init 128 = .ok (.iconst 0, 1) := by decide +kernel
theorem dX6_init_129 : decode cX6_init 129 = .ok (.putfield 78, 3) := by decide +kernel
theorem dX6_init_132 : decode cX6_init 132 = .ok (.return_, 1) := by decide +kernel
theorem dX6_copy_0 : decode cX6_copy 0 = .ok (.aload_n 0, 1) := by decide +kernel
theorem dX6_copy_1 : decode cX6_copy 1 = .ok (.getfield 12, 3) := by decide +kernel
theorem dX6_copy_4 : decode cX6_copy 4 = .ok (.aload_n 1, 1) := by decide +kernel
theorem dX6_copy_5 : decode cX6_copy 5 = .ok (.getfield 12, 3) := by decide +kernel
theorem dX6_copy_8 : decode cX6_copy 8 = .ok (.invokevirtual 81, 3) := by decide +kernel
theorem dX6_copy_11 : decode cX6_copy 11 = .ok (.aload_n 0, 1) := by decide +kernel
theorem dX6_copy_12 : decode cX6_copy 12 = .ok (.aload_n 1, 1) := by decide +kernel
theorem dX6_copy_13 : decode cX6_copy 13 = .ok (.invokevirtual 85, 3) := by decide +kernel
theorem dX6_copy_16 : decode cX6_copy 16 = .ok (.aload_n 1, 1) := by decide +kernel
theorem dX6_copy_17 : decode cX6_copy 17 = .ok (.getfield 30, 3) := by decide +kernel
theorem dX6_copy_20 : decode cX6_copy 20 = .ok (.iconst 0, 1) := by decide +kernel
theorem dX6_copy_21 : decode cX6_copy 21 = .ok (.aload_n 0, 1) := by decide +kernel
theorem dX6_copy_22 : decode cX6_copy 22 = .ok (.getfield 30, 3) := by decide +kernel
theorem dX6_copy_25 : decode cX6_copy 25 = .ok (.iconst 0, 1) := by decide +kernel
theorem dX6_copy_26 : decode cX6_copy 26 = .ok (.sipush 400, 3) := by decide +kernel
theorem dX6_copy_29 : decode cX6_copy 29 = .ok (.invokestatic 89, 3) := by decide +kernel
theorem dX6_copy_32 : decode cX6_copy 32 = .ok (.aload_n 0, 1) := by decide +kernel
theorem dX6_copy_33 : decode cX6_copy 33 = .ok (.aload_n 1, 1) := by decide +kernel
theorem dX6_copy_34 : decode cX6_copy 34 = .ok (.getfield 34, 3) := by decide +kernel
theorem dX6_copy_37 : decode cX6_copy 37 = .ok (.putfield 34, 3) := by decide +kernel
theorem dX6_copy_40 : decode cX6_copy 40 = .ok (.aload_n 0, 1) := by decide +kernel
theorem dX6_copy_41 : decode cX6_copy 41 = .ok (.aload_n 1, 1) := by decide +kernel
theorem dX6_copy_42 : decode cX6_copy 42 = .ok (.getfield 38, 3) := by decide +kernel
theorem dX6_copy_45 : decode cX6_copy 45 = .ok (.putfield 38, 3) := by decide +kernel
theorem dX6_copy_48 : decode cX6_copy 48 = .ok (.aload_n 0, 1) := by decide +kernel
theorem dX6_copy_49 : decode cX6_copy 49 = .ok (.aload_n 1, 1) := by decide +kernel
theorem dX6_copy_50 : decode cX6_copy 50 = .ok (.getfield 41, 3) := by decide +kernel
theorem dX6_copy_53 : decode cX6_copy 53 = .ok (.putfield 41, 3) := by decide +kernel
theorem dX6_copy_56 : decode cX6_copy 56 = .ok (.aload_n 0, 1) := by decide +kernel
theorem dX6_copy_57 : decode cX6_copy 57 = .ok (.aload_n 1, 1) := by decide +kernel
theorem dX6_copy_58 : decode cX6_copy 58 = .ok (.invokevirtual 95, 3) := by decide +kernel
theorem dX6_copy_61 : decode cX6_copy 61 = .ok (.aload_n 0, 1) := by decide +kernel
theorem dX6_copy_62 : decode cX6_copy 62 = .ok (.aload_n 1, 1) := by decide +kernel
theorem dX6_copy_63 : decode cX6_copy 63 = .ok (.getfield 59, 3) := by decide +kernel
theorem dX6_copy_66 : decode cX6_copy 66 = .ok (.putfield 59, 3) := by decide +kernel
theorem dX6_copy_69 : decode cX6_copy 69 = .ok (.aload_n 0, 1) := by decide +kernel
theorem dX6_copy_70 : decode cX6_copy 70 = .ok (.aload_n 1, 1) := by decide +kernel
theorem dX6_copy_71 : decode cX6_copy 71 = .ok (.getfield 63, 3) := by decide +kernel
theorem dX6_copy_74 : decode cX6_copy 74 = .ok (.putfield 63, 3) := by decide +kernel
theorem dX6_copy_77 : decode cX6_copy 77 = .ok (.aload_n 0, 1) := by decide +kernel
theorem dX6_copy_78 : decode cX6_copy 78 = .ok (.aload_n 1, 1) := by decide +kernel
theorem dX6_copy_79 : decode cX6_copy 79 = .ok (.getfield 66, 3) := by decide +kernel
theorem dX6_copy_82 : decode cX6_copy 82 = .ok (.putfield 66, 3) := by decide +kernel
theorem dX6_copy_85 : decode cX6_copy 85 = .ok (.aload_n 1, 1) := by decide +kernel
theorem dX6_copy_86 : decode cX6_copy 86 = .ok (.getfield 69, 3) := by decide +kernel
theorem dX6_copy_89 : decode cX6_copy 89 = .ok (.iconst 0, 1) := by decide +kernel
theorem dX6_copy_90 : decode cX6_copy 90 = .ok (.aload_n 0, 1) := by decide +kernel
theorem dX6_copy_91 : decode cX6_copy 91 = .ok (.getfield 69, 3) := by decide +kernel
theorem dX6_copy_94 : decode cX6_copy 94 = .ok (.iconst 0, 1) := by decide +kernel
theorem dX6_copy_95 : decode cX6_copy 95 = .ok (.bipush 40, 2) := by decide +kernel
theorem dX6_copy_97 : decode cX6_copy 97 = .ok (.invokestatic 89, 3) := by decide +kernel
theorem dX6_copy_100 : decode cX6_copy 100 = .ok (.aload_n 1, 1) := by decide +kernel
theorem dX6_copy_101 : decode cX6_copy 101 = .ok (.getfield 72, 3) := by decide +kernel
theorem dX6_copy_104 : decode cX6_copy 104 = .ok (.iconst 0, 1) := by decide +kernel
theorem dX6_copy_105 : decode cX6_copy 105 = .ok (.aload_n 0, 1) := by decide +kernel
theorem dX6_copy_106 : decode cX6_copy 106 = .ok (.getfield 72, 3) := by decide +kernel
theorem dX6_copy_109 : decode cX6_copy 109 = .ok (.iconst 0, 1) := by decide +kernel
theorem dX6_copy_110 : decode cX6_copy 110 = .ok (.bipush 40, 2) := by decide +kernel
theorem dX6_copy_112 : decode cX6_copy 112 = .ok (.invokestatic 89, 3) := by decide +kernel
theorem dX6_copy_115 : decode cX6_copy 115 = .ok (.aload_n 1, 1) := by decide +kernel
theorem dX6_copy_116 : decode cX6_copy 116 = .ok (.getfield 75, 3) := by decide +kernel
theorem dX6_copy_119 : decode cX6_copy 119 = .ok (.iconst 0, 1) := by decide +kernel
theorem dX6_copy_120 : decode cX6_copy 120 = .ok (.aload_n 0, 1) := by decide +kernel
theorem dX6_copy_121 : decode cX6_copy 121 = .ok (.getfield 75, 3) := by decide +kernel
theorem dX6_copy_124 : decode cX6_copy 124 = .ok (.iconst 0, 1) := by decide +kernel
theorem dX6_copy_125 : decode cX6_copy 125 = .ok (.bipush 40, 2) := by decide +kernel
theorem dX6_copy_127 : decode cX6_copy 127 = .ok (.invokestatic 89, 3) := by decide +kernel
theorem dX6_copy_130 : decode cX6_copy 130 = .ok (.aload_n 0, 1) := by decide +kernel
theorem dX6_copy_131 : decode cX6_copy 131 = .ok (.aload_n 1, 1) := by decide +kernel
theorem dX6_copy_132 : decode cX6_copy 132 = .ok (.getfield 78, 3) := by decide +kernel
theorem dX6_copy_135 : decode cX6_copy 135 = .ok (.putfield 78, 3) := by decide +kernel
theorem dX6_copy_138 : decode cX6_copy 138 = .ok (.return_, 1) := by decide +kernel
theorem dX6_copyWorlds_0 : decode cX6_copyWorlds 0 = .ok (.aload_n 0, 1) := by decide +kernel
theorem dX6_copyWorlds_1 : decode cX6_copyWorlds 1 = .ok (.aload_n 1, 1) := by decide +kernel
theorem dX6_copyWorlds_2 : decode cX6_copyWorlds 2 = .ok (.getfield 18, 3) := by decide +kernel
theorem dX6_copyWorlds_5 : decode cX6_copyWorlds 5 = .ok (.putfield 18, 3) := by decide +kernel
theorem dX6_copyWorlds_8 : decode cX6_copyWorlds 8 = .ok (.aload_n 1, 1) := by decide +kernel
theorem dX6_copyWorlds_9 : decode cX6_copyWorlds 9 = .ok (.getfield 22, 3) := by decide +kernel
theorem dX6_copyWorlds_12 : decode cX6_copyWorlds 12 = .ok (.iconst 0, 1) := by decide +kernel
theorem dX6_copyWorlds_13 : decode cX6_copyWorlds 13 = .ok (.aload_n 0, 1) := by decide +kernel
theorem dX6_copyWorlds_14 : decode cX6_copyWorlds 14 = .ok (.getfield 22, 3) := by decide +kernel
theorem dX6_copyWorlds_17 : decode cX6_copyWorlds 17 = .ok (.iconst 0, 1) := by decide +kernel
theorem dX6_copyWorlds_18 : decode cX6_copyWorlds 18 = .ok (.iconst 4, 1) := by decide +kernel
theorem dX6_copyWorlds_19 : decode cX6_copyWorlds 19 = .ok (.invokestatic 89, 3) := by decide +kernel
theorem dX6_copyWorlds_22 : decode cX6_copyWorlds 22 = .ok (.aload_n 1, 1) := by decide +kernel
theorem dX6_copyWorlds_23 : decode cX6_copyWorlds 23 = .ok (.getfield 26, 3) := by decide +kernel
theorem dX6_copyWorlds_26 : decode cX6_copyWorlds 26 = .ok (.iconst 0, 1) := by decide +kernel
theorem dX6_copyWorlds_27 : decode cX6_copyWorlds 27 = .ok (.aload_n 0, 1) := by decide +kernel
theorem dX6_copyWorlds_28 : decode cX6_copyWorlds 28 = .ok (.getfield 26, 3) := by decide +kernel
theorem dX6_copyWorlds_31 : decode cX6_copyWorlds 31 = .ok (.iconst 0, 1) := by decide +kernel
theorem dX6_copyWorlds_32 : decode cX6_copyWorlds 32 = .ok (.iconst 4, 1) := by decide +kernel
theorem dX6_copyWorlds_33 : decode cX6_copyWorlds 33 = .ok (.invokestatic 89, 3) := by decide +kernel
theorem dX6_copyWorlds_36 : decode cX6_copyWorlds 36 = .ok (.return_, 1) := by decide +kernel
theorem dX6_copyStories_0 : decode cX6_copyStories 0 = .ok (.iconst 0, 1) := by decide +kernel
theorem dX6_copyStories_1 : decode cX6_copyStories 1 = .ok (.istore_n 2, 1) := by decide +kernel
theorem dX6_copyStories_2 : decode cX6_copyStories 2 = .ok (.iload_n 2, 1) := by decide +kernel
theorem dX6_copyStories_3 : decode cX6_copyStories 3 = .ok (.bipush 8, 2) := by decide +kernel
theorem dX6_copyStories_5 : decode cX6_copyStories 5 = .ok (.if_icmp .ge 45, 3) := by decide +kernel
theorem dX6_copyStories_8 : decode cX6_copyStories 8 = .ok (.aload_n 0, 1) := by decide +kernel
theorem dX6_copyStories_9 : decode cX6_copyStories 9 = .ok (.getfield 46, 3) := by decide +kernel
theorem dX6_copyStories_12 : decode cX6_copyStories 12 = .ok (.iload_n 2, 1) := by decide +kernel
theorem dX6_copyStories_13 : decode cX6_copyStories 13 = .ok (.aload_n 1, 1) := by decide +kernel
theorem dX6_copyStories_14 : decode cX6_copyStories 14 = .ok (.getfield 46, 3) := by decide +kernel
theorem dX6_copyStories_17 : decode cX6_copyStories 17 = .ok (.iload_n 2, 1) := by decide +kernel
theorem dX6_copyStories_18 : decode cX6_copyStories 18 = .ok (.aaload, 1) := by decide +kernel
theorem dX6_copyStories_19 : decode cX6_copyStories 19 = .ok (.aastore, 1) := by decide +kernel
theorem dX6_copyStories_20 : decode cX6_copyStories 20 = .ok (.aload_n 0, 1) := by decide +kernel
theorem dX6_copyStories_21 : decode cX6_copyStories 21 = .ok (.getfield 50, 3) := by decide +kernel
theorem dX6_copyStories_24 : decode cX6_copyStories 24 = .ok (.iload_n 2, 1) := by decide +kernel
theorem dX6_copyStories_25 : decode cX6_copyStories 25 = .ok (.aload_n 1, 1) := by decide +kernel
theorem dX6_copyStories_26 : decode cX6_copyStories 26 = .ok (.getfield 50, 3) := by decide +kernel
theorem dX6_copyStories_29 : decode cX6_copyStories 29 = .ok (.iload_n 2, 1) := by decide +kernel
theorem dX6_copyStories_30 : decode cX6_copyStories 30 = .ok (.iaload, 1) := by decide +kernel
theorem dX6_copyStories_31 : decode cX6_copyStories 31 = .ok (.iastore, 1) := by decide +kernel
theorem dX6_copyStories_32 : decode cX6_copyStories 32 = .ok (.aload_n 0, 1) := by decide +kernel
theorem dX6_copyStories_33 : decode cX6_copyStories 33 = .ok (.getfield 53, 3) := by decide +kernel
theorem dX6_copyStories_36 : decode cX6_copyStories 36 = .ok (.iload_n 2, 1) := by decide +kernel
theorem dX6_copyStories_37 : decode cX6_copyStories 37 = .ok (.aload_n 1, 1) := by decide +kernel
theorem dX6_copyStories_38 : decode cX6_copyStories 38 = .ok (.getfield 53, 3) := by decide +kernel
theorem dX6_copyStories_41 : decode cX6_copyStories 41 = .ok (.iload_n 2, 1) := by decide +kernel
theorem dX6_copyStories_42 : decode cX6_copyStories 42 = .ok (.iaload, 1) := by decide +kernel
theorem dX6_copyStories_43 : decode cX6_copyStories 43 = .ok (.iastore, 1) := by decide +kernel
theorem dX6_copyStories_44 : decode cX6_copyStories 44 = .ok (.iinc 2 1, 3) := by decide +kernel
theorem dX6_copyStories_47 : decode cX6_copyStories 47 = .ok (.goto (-45), 3) := by decide +kernel
theorem dX6_copyStories_50 : decode cX6_copyStories 50 = .ok (.aload_n 0, 1) := by decide +kernel
theorem dX6_copyStories_51 : decode cX6_copyStories 51 = .ok (.aload_n 1, 1) := by decide +kernel
theorem dX6_copyStories_52 : decode cX6_copyStories 52 = .ok (.getfield 56, 3) := by decide +kernel
theorem dX6_copyStories_55 : decode cX6_copyStories 55 = .ok (.putfield 56, 3) := by decide +kernel
theorem dX6_copyStories_58 : decode cX6_copyStories 58 = .ok (.return_, 1) := by decide +kernel
theorem dX6_clearWorlds_0 : decode cX6_clearWorlds 0 = .ok (.aload_n 0, 1) := by decide +kernel
theorem dX6_clearWorlds_1 : decode cX6_clearWorlds 1 = .ok (.lconst 0, 1) := by decide +kernel
theorem dX6_clearWorlds_2 : decode cX6_clearWorlds 2 = .ok (.putfield 18, 3) := by decide +kernel
theorem dX6_clearWorlds_5 : decode cX6_clearWorlds 5 = .ok (.iconst 0, 1) := by decide +kernel
theorem dX6_clearWorlds_6 : decode cX6_clearWorlds 6 = .ok (.istore_n 1, 1) := by decide +kernel
theorem dX6_clearWorlds_7 : decode cX6_clearWorlds 7 = .ok (.iload_n 1, 1) := by decide +kernel
theorem dX6_clearWorlds_8 : decode cX6_clearWorlds 8 = .ok (.iconst 4, 1) := by decide +kernel
theorem dX6_clearWorlds_9 : decode cX6_clearWorlds 9 = .ok (.if_icmp .ge 16, 3) := by decide +kernel
theorem dX6_clearWorlds_12 : decode cX6_clearWorlds 12 = .ok (.aload_n 0, 1) := by decide +kernel
theorem dX6_clearWorlds_13 : decode cX6_clearWorlds 13 = .ok (.getfield 26, 3) := by decide +kernel
theorem dX6_clearWorlds_16 : decode cX6_clearWorlds 16 = .ok (.iload_n 1, 1) := by decide +kernel
theorem dX6_clearWorlds_17 : decode cX6_clearWorlds 17 = .ok (.iconst 0, 1) := by decide +kernel
theorem dX6_clearWorlds_18 : decode cX6_clearWorlds 18 = .ok (.bastore, 1) := by decide +kernel
theorem dX6_clearWorlds_19 : decode cX6_clearWorlds 19 = .ok (.iinc 1 1, 3) := by decide +kernel
theorem dX6_clearWorlds_22 : decode cX6_clearWorlds 22 = .ok (.goto (-15), 3) := by decide +kernel
theorem dX6_clearWorlds_25 : decode cX6_clearWorlds 25 = .ok (.return_, 1) := by decide +kernel
theorem dX6_isSo_0 : decode cX6_isSo 0 = .ok (.aload_n 0, 1) := by decide +kernel
theorem dX6_isSo_1 : decode cX6_isSo 1 = .ok (.getfield 18, 3) := by decide +kernel
theorem dX6_isSo_4 : decode cX6_isSo 4 = .ok (.aload_n 0, 1) := by decide +kernel
theorem dX6_isSo_5 : decode cX6_isSo 5 = .ok (.getfield 12, 3) := by decide +kernel
theorem dX6_isSo_8 : decode cX6_isSo 8 = .ok (.iload_n 1, 1) := by decide +kernel
theorem dX6_isSo_9 : decode cX6_isSo 9 = .ok (.invokevirtual 98, 3) := by decide +kernel
theorem dX6_isSo_12 : decode cX6_isSo 12 = .ok (.lshr, 1) := by decide +kernel
theorem dX6_isSo_13 : decode cX6_isSo 13 = .ok (.lconst 1, 1) := by decide +kernel
theorem dX6_isSo_14 : decode cX6_isSo 14 = .ok (.land, 1) := by decide +kernel
theorem dX6_isSo_15 : decode cX6_isSo 15 = .ok (.lconst 0, 1) := by decide +kernel
theorem dX6_isSo_16 : decode cX6_isSo 16 = .ok (.lcmp, 1) := by decide +kernel
theorem dX6_isSo_17 : decode cX6_isSo 17 = .ok (.ifCond .eq 7, 3) := by decide +kernel
theorem dX6_isSo_20 : decode cX6_isSo 20 = .ok (.iconst 1, 1) := by decide +kernel
theorem dX6_isSo_21 : decode cX6_isSo 21 = .ok (.goto 4, 3) := by decide +kernel
theorem dX6_isSo_24 : decode cX6_isSo 24 = .ok (.iconst 0, 1) := by decide +kernel
theorem dX6_isSo_25 : decode cX6_isSo 25 = .ok (.ireturn, 1) := by decide +kernel
theorem dX6_clearTape_0 : decode cX6_clearTape 0 = .ok (.aload_n 0, 1) := by decide +kernel
theorem dX6_clearTape_1 : decode cX6_clearTape 1 = .ok (.iconst 0, 1) := by decide +kernel
theorem dX6_clearTape_2 : decode cX6_clearTape 2 = .ok (.putfield 34, 3) := by decide +kernel
theorem dX6_clearTape_5 : decode cX6_clearTape 5 = .ok (.aload_n 0, 1) := by decide +kernel
theorem dX6_clearTape_6 : decode cX6_clearTape 6 = .ok (.iconst 0, 1) := by decide +kernel
theorem dX6_clearTape_7 : decode cX6_clearTape 7 = .ok (.putfield 38, 3) := by decide +kernel
theorem dX6_clearTape_10 : decode cX6_clearTape 10 = .ok (.aload_n 0, 1) := by decide +kernel
theorem dX6_clearTape_11 : decode cX6_clearTape 11 = .ok (.iconst (-1), 1) := by decide +kernel
theorem dX6_clearTape_12 : decode cX6_clearTape 12 = .ok (.putfield 41, 3) := by decide +kernel
theorem dX6_clearTape_15 : decode cX6_clearTape 15 = .ok (.return_, 1) := by decide +kernel
theorem dX6_addBytes_0 : decode cX6_addBytes 0 = .ok (.bipush 24, 2) := by decide +kernel
theorem dX6_addBytes_2 : decode cX6_addBytes 2 = .ok (.istore_n 2, 1) := by decide +kernel
theorem dX6_addBytes_3 : decode cX6_addBytes 3 = .ok (.iload_n 2, 1) := by decide +kernel
theorem dX6_addBytes_4 : decode cX6_addBytes 4 = .ok (.ifCond .lt 45, 3) := by decide +kernel
theorem dX6_addBytes_7 : decode cX6_addBytes 7 = .ok (.aload_n 0, 1) := by decide +kernel
theorem dX6_addBytes_8 : decode cX6_addBytes 8 = .ok (.getfield 34, 3) := by decide +kernel
theorem dX6_addBytes_11 : decode cX6_addBytes 11 = .ok (.sipush 400, 3) := by decide +kernel
theorem dX6_addBytes_14 : decode cX6_addBytes 14 = .ok (.if_icmp .ge 35, 3) := by decide +kernel
theorem dX6_addBytes_17 : decode cX6_addBytes 17 = .ok (.aload_n 0, 1) := by decide +kernel
theorem dX6_addBytes_18 : decode cX6_addBytes 18 = .ok (.getfield 30, 3) := by decide +kernel
theorem dX6_addBytes_21 : decode cX6_addBytes 21 = .ok (.aload_n 0, 1) := by decide +kernel
theorem dX6_addBytes_22 : decode cX6_addBytes 22 = .ok (.getfield 34, 3) := by decide +kernel
theorem dX6_addBytes_25 : decode cX6_addBytes 25 = .ok (.iload_n 1, 1) := by decide +kernel
theorem dX6_addBytes_26 : decode cX6_addBytes 26 = .ok (.iload_n 2, 1) := by decide +kernel
theorem dX6_addBytes_27 : decode cX6_addBytes 27 = .ok (.ishr, 1) := by decide +kernel
theorem dX6_addBytes_28 : decode cX6_addBytes 28 = .ok (.sipush 255, 3) := by decide +kernel
theorem dX6_addBytes_31 : decode cX6_addBytes 31 = .ok (.iand, 1) := by decide +kernel
theorem dX6_addBytes_32 : decode cX6_addBytes 32 = .ok (.iastore, 1) := by decide +kernel
theorem dX6_addBytes_33 : decode cX6_addBytes 33 = .ok (.aload_n 0, 1) := by decide +kernel
theorem dX6_addBytes_34 : decode cX6_addBytes 34 = .ok (.dup, 1) := by decide +kernel
theorem dX6_addBytes_35 : decode cX6_addBytes 35 = .ok (.getfield 34, 3) := by decide +kernel
theorem dX6_addBytes_38 : decode cX6_addBytes 38 = .ok (.iconst 1, 1) := by decide +kernel
theorem dX6_addBytes_39 : decode cX6_addBytes 39 = .ok (.iadd, 1) := by decide +kernel
theorem dX6_addBytes_40 : decode cX6_addBytes 40 = .ok (.putfield 34, 3) := by decide +kernel
theorem dX6_addBytes_43 : decode cX6_addBytes 43 = .ok (.iinc 2 (-8), 3) := by decide +kernel
theorem dX6_addBytes_46 : decode cX6_addBytes 46 = .ok (.goto (-43), 3) := by decide +kernel
theorem dX6_addBytes_49 : decode cX6_addBytes 49 = .ok (.return_, 1) := by decide +kernel
theorem dX6_hasStory_0 : decode cX6_hasStory 0 = .ok (.iload_n 1, 1) := by decide +kernel
theorem dX6_hasStory_1 : decode cX6_hasStory 1 = .ok (.ifCond .lt 15, 3) := by decide +kernel
theorem dX6_hasStory_4 : decode cX6_hasStory 4 = .ok (.iload_n 1, 1) := by decide +kernel
theorem dX6_hasStory_5 : decode cX6_hasStory 5 = .ok (.aload_n 0, 1) := by decide +kernel
theorem dX6_hasStory_6 : decode cX6_hasStory 6 = .ok (.getfield 56, 3) := by decide +kernel
theorem dX6_hasStory_9 : decode cX6_hasStory 9 = .ok (.if_icmp .ge 7, 3) := by decide +kernel
theorem dX6_hasStory_12 : decode cX6_hasStory 12 = .ok (.iconst 1, 1) := by decide +kernel
theorem dX6_hasStory_13 : decode cX6_hasStory 13 = .ok (.goto 4, 3) := by decide +kernel
theorem dX6_hasStory_16 : decode cX6_hasStory 16 = .ok (.iconst 0, 1) := by decide +kernel
theorem dX6_hasStory_17 : decode cX6_hasStory 17 = .ok (.ireturn, 1) := by decide +kernel
theorem dX6_storyText_0 : decode cX6_storyText 0 = .ok (.aload_n 0, 1) := by decide +kernel
theorem dX6_storyText_1 : decode cX6_storyText 1 = .ok (.iload_n 1, 1) := by decide +kernel
theorem dX6_storyText_2 : decode cX6_storyText 2 = .ok (.invokevirtual 102, 3) := by decide +kernel
theorem dX6_storyText_5 : decode cX6_storyText 5 = .ok (.ifCond .eq 12, 3) := by decide +kernel
theorem dX6_storyText_8 : decode cX6_storyText 8 = .ok (.aload_n 0, 1) := by decide +kernel
theorem dX6_storyText_9 : decode cX6_storyText 9 = .ok (.getfield 46, 3) := by decide +kernel
theorem dX6_storyText_12 : decode cX6_storyText 12 = .ok (.iload_n 1, 1) := by decide +kernel
theorem dX6_storyText_13 : decode cX6_storyText 13 = .ok (.aaload, 1) := by decide +kernel
theorem dX6_storyText_14 : decode cX6_storyText 14 = .ok (.goto 4, 3) := by decide +kernel
theorem dX6_storyText_17 : decode cX6_storyText 17 = .ok (.aconst_null, 1) := by decide +kernel
theorem dX6_storyText_18 : decode cX6_storyText 18 = .ok (.areturn, 1) := by decide +kernel
theorem dX6_addStory_0 : decode cX6_addStory 0 = .ok (.aload_n 0, 1) := by decide +kernel
theorem dX6_addStory_1 : decode cX6_addStory 1 = .ok (.getfield 56, 3) := by decide +kernel
theorem dX6_addStory_4 : decode cX6_addStory 4 = .ok (.bipush 8, 2) := by decide +kernel
theorem dX6_addStory_6 : decode cX6_addStory 6 = .ok (.if_icmp .lt 5, 3) := by decide +kernel
theorem dX6_addStory_9 : decode cX6_addStory 9 = .ok (.iconst (-1), 1) := by decide +kernel
theorem dX6_addStory_10 : decode cX6_addStory 10 = .ok (.ireturn, 1) := by decide +kernel
theorem dX6_addStory_11 : decode cX6_addStory 11 = .ok (.aload_n 0, 1) := by decide +kernel
theorem dX6_addStory_12 : decode cX6_addStory 12 = .ok (.getfield 46, 3) := by decide +kernel
theorem dX6_addStory_15 : decode cX6_addStory 15 = .ok (.aload_n 0, 1) := by decide +kernel
theorem dX6_addStory_16 : decode cX6_addStory 16 = .ok (.getfield 56, 3) := by decide +kernel
theorem dX6_addStory_19 : decode cX6_addStory 19 = .ok (.aload_n 1, 1) := by decide +kernel
theorem dX6_addStory_20 : decode cX6_addStory 20 = .ok (.aastore, 1) := by decide +kernel
theorem dX6_addStory_21 : decode cX6_addStory 21 = .ok (.aload_n 0, 1) := by decide +kernel
theorem dX6_addStory_22 : decode cX6_addStory 22 = .ok (.getfield 50, 3) := by decide +kernel
theorem dX6_addStory_25 : decode cX6_addStory 25 = .ok (.aload_n 0, 1) := by decide +kernel
theorem dX6_addStory_26 : decode cX6_addStory 26 = .ok (.getfield 56, 3) := by decide +kernel
theorem dX6_addStory_29 : decode cX6_addStory 29 = .ok (.aload_n 0, 1) := by decide +kernel
theorem dX6_addStory_30 : decode cX6_addStory 30 = .ok (.getfield 63, 3) := by decide +kernel
theorem dX6_addStory_33 : decode cX6_addStory 33 = .ok (.iastore, 1) := by decide +kernel
theorem dX6_addStory_34 : decode cX6_addStory 34 = .ok (.aload_n 0, 1) := by decide +kernel
theorem dX6_addStory_35 : decode cX6_addStory 35 = .ok (.getfield 53, 3) := by decide +kernel
theorem dX6_addStory_38 : decode cX6_addStory 38 = .ok (.aload_n 0, 1) := by decide +kernel
theorem dX6_addStory_39 : decode cX6_addStory 39 = .ok (.getfield 56, 3) := by decide +kernel
theorem dX6_addStory_42 : decode cX6_addStory 42 = .ok (.iconst (-1), 1) := by decide +kernel
theorem dX6_addStory_43 : decode cX6_addStory 43 = .ok (.iastore, 1) := by decide +kernel
theorem dX6_addStory_44 : decode cX6_addStory 44 = .ok (.aload_n 0, 1) := by decide +kernel
theorem dX6_addStory_45 : decode cX6_addStory 45 = .ok (.dup, 1) := by decide +kernel
theorem dX6_addStory_46 : decode cX6_addStory 46 = .ok (.getfield 56, 3) := by decide +kernel
theorem dX6_addStory_49 : decode cX6_addStory 49 = .ok (.iconst 1, 1) := by decide +kernel
theorem dX6_addStory_50 : decode cX6_addStory 50 = .ok (.iadd, 1) := by decide +kernel
theorem dX6_addStory_51 : decode cX6_addStory 51 = .ok (.putfield 56, 3) := by decide +kernel
theorem dX6_addStory_54 : decode cX6_addStory 54 = .ok (.aload_n 0, 1) := by decide +kernel
theorem dX6_addStory_55 : decode cX6_addStory 55 = .ok (.getfield 56, 3) := by decide +kernel
theorem dX6_addStory_58 : decode cX6_addStory 58 = .ok (.iconst 1, 1) := by decide +kernel
theorem dX6_addStory_59 : decode cX6_addStory 59 = .ok (.isub, 1) := by decide +kernel
theorem dX6_addStory_60 : decode cX6_addStory 60 = .ok (.ireturn, 1) := by decide +kernel
theorem dX6_viewedDay_0 : decode cX6_viewedDay 0 = .ok (.aload_n 0, 1) := by decide +kernel
theorem dX6_viewedDay_1 : decode cX6_viewedDay 1 = .ok (.getfield 66, 3) := by decide +kernel
theorem dX6_viewedDay_4 : decode cX6_viewedDay 4 = .ok (.iconst (-1), 1) := by decide +kernel
theorem dX6_viewedDay_5 : decode cX6_viewedDay 5 = .ok (.if_icmp .ne 10, 3) := by decide +kernel
theorem dX6_viewedDay_8 : decode cX6_viewedDay 8 = .ok (.aload_n 0, 1) := by decide +kernel
theorem dX6_viewedDay_9 : decode cX6_viewedDay 9 = .ok (.getfield 63, 3) := by decide +kernel
theorem dX6_viewedDay_12 : decode cX6_viewedDay 12 = .ok (.goto 7, 3) := by decide +kernel
theorem dX6_viewedDay_15 : decode cX6_viewedDay 15 = .ok (.aload_n 0, 1) := by decide +kernel
theorem dX6_viewedDay_16 : decode cX6_viewedDay 16 = .ok (.getfield 66, 3) := by decide +kernel
theorem dX6_viewedDay_19 : decode cX6_viewedDay 19 = .ok (.ireturn, 1) := by decide +kernel
theorem dX6_viewedStories_0 : decode cX6_viewedStories 0 = .ok (.iconst 0, 1) := by decide +kernel
theorem dX6_viewedStories_1 : decode cX6_viewedStories 1 = .ok (.istore_n 1, 1) := by decide +kernel
theorem dX6_viewedStories_2 : decode cX6_viewedStories 2 = .ok (.iconst 0, 1) := by decide +kernel
theorem dX6_viewedStories_3 : decode cX6_viewedStories 3 = .ok (.istore_n 2, 1) := by decide +kernel
theorem dX6_viewedStories_4 : decode cX6_viewedStories 4 = .ok (.iload_n 2, 1) := by decide +kernel
theorem dX6_viewedStories_5 : decode cX6_viewedStories 5 = .ok (.aload_n 0, 1) := by decide +kernel
theorem dX6_viewedStories_6 : decode cX6_viewedStories 6 = .ok (.getfield 56, 3) := by decide +kernel
theorem dX6_viewedStories_9 : decode cX6_viewedStories 9 = .ok (.if_icmp .ge 61, 3) := by decide +kernel
theorem dX6_viewedStories_12 : decode cX6_viewedStories 12 = .ok (.aload_n 0, 1) := by decide +kernel
theorem dX6_viewedStories_13 : decode cX6_viewedStories 13 = .ok (.getfield 53, 3) := by decide +kernel
theorem dX6_viewedStories_16 : decode cX6_viewedStories 16 = .ok (.iload_n 2, 1) := by decide +kernel
theorem dX6_viewedStories_17 : decode cX6_viewedStories 17 = .ok (.iaload, 1) := by decide +kernel
theorem dX6_viewedStories_18 : decode cX6_viewedStories 18 = .ok (.iconst (-1), 1) := by decide +kernel
theorem dX6_viewedStories_19 : decode cX6_viewedStories 19 = .ok (.if_icmp .eq 20, 3) := by decide +kernel
theorem dX6_viewedStories_22 : decode cX6_viewedStories 22 = .ok (.aload_n 0, 1) := by decide +kernel
theorem dX6_viewedStories_23 : decode cX6_viewedStories 23 = .ok (.getfield 53, 3) := by decide +kernel
theorem dX6_viewedStories_26 : decode cX6_viewedStories 26 = .ok (.iload_n 2, 1) := by decide +kernel
theorem dX6_viewedStories_27 : decode cX6_viewedStories 27 = .ok (.iaload, 1) := by decide +kernel
theorem dX6_viewedStories_28 : decode cX6_viewedStories 28 = .ok (.aload_n 0, 1) := by decide +kernel
theorem dX6_viewedStories_29 : decode cX6_viewedStories 29 = .ok (.invokevirtual 106, 3) := by decide +kernel
theorem dX6_viewedStories_32 : decode cX6_viewedStories 32 = .ok (.if_icmp .gt 7, 3) := by decide +kernel
theorem dX6_viewedStories_35 : decode cX6_viewedStories 35 = .ok (.iconst 1, 1) := by decide +kernel
theorem dX6_viewedStories_36 : decode cX6_viewedStories 36 = .ok (.goto 4, 3) := by decide +kernel
theorem dX6_viewedStories_39 : decode cX6_viewedStories 39 = .ok (.iconst 0, 1) := by decide +kernel
theorem dX6_viewedStories_40 : decode cX6_viewedStories 40 = .ok (.istore_n 3, 1) := by decide +kernel
theorem dX6_viewedStories_41 : decode cX6_viewedStories 41 = .ok (.aload_n 0, 1) := by decide +kernel
theorem dX6_viewedStories_42 : decode cX6_viewedStories 42 = .ok (.getfield 50, 3) := by decide +kernel
theorem dX6_viewedStories_45 : decode cX6_viewedStories 45 = .ok (.iload_n 2, 1) := by decide +kernel
theorem dX6_viewedStories_46 : decode cX6_viewedStories 46 = .ok (.iaload, 1) := by decide +kernel
theorem dX6_viewedStories_47 : decode cX6_viewedStories 47 = .ok (.aload_n 0, 1) := by decide +kernel
theorem dX6_viewedStories_48 : decode cX6_viewedStories 48 = .ok (.invokevirtual 106, 3) := by decide +kernel
theorem dX6_viewedStories_51 : decode cX6_viewedStories 51 = .ok (.if_icmp .gt 13, 3) := by decide +kernel
theorem dX6_viewedStories_54 : decode cX6_viewedStories 54 = .ok (.iload_n 3, 1) := by decide +kernel
theorem dX6_viewedStories_55 : decode cX6_viewedStories 55 = .ok (.ifCond .ne 9, 3) := by decide +kernel
theorem dX6_viewedStories_58 : decode cX6_viewedStories 58 = .ok (.iload_n 1, 1) := by decide +kernel
theorem dX6_viewedStories_59 : decode cX6_viewedStories 59 = .ok (.iconst 1, 1) := by decide +kernel
theorem dX6_viewedStories_60 : decode cX6_viewedStories 60 = .ok (.iload_n 2, 1) := by decide +kernel
theorem dX6_viewedStories_61 : decode cX6_viewedStories 61 = .ok (.ishl, 1) := by decide +kernel
theorem dX6_viewedStories_62 : decode cX6_viewedStories 62 = .ok (.ior, 1) := by decide +kernel
theorem dX6_viewedStories_63 : decode cX6_viewedStories 63 = .ok (.istore_n 1, 1) := by decide +kernel
theorem dX6_viewedStories_64 : decode cX6_viewedStories 64 = .ok (.iinc 2 1, 3) := by decide +kernel
theorem dX6_viewedStories_67 : decode cX6_viewedStories 67 = .ok (.goto (-63), 3) := by decide +kernel
theorem dX6_viewedStories_70 : decode cX6_viewedStories 70 = .ok (.iload_n 1, 1) := by decide +kernel
theorem dX6_viewedStories_71 : decode cX6_viewedStories 71 = .ok (.ireturn, 1) := by decide +kernel
theorem dX6_addKnown_0 : decode cX6_addKnown 0 = .ok (.aload_n 0, 1) := by decide +kernel
theorem dX6_addKnown_1 : decode cX6_addKnown 1 = .ok (.getfield 12, 3) := by decide +kernel
theorem dX6_addKnown_4 : decode cX6_addKnown 4 = .ok (.iload_n 1, 1) := by decide +kernel
theorem dX6_addKnown_5 : decode cX6_addKnown 5 = .ok (.invokevirtual 110, 3) := by decide +kernel
theorem dX6_addKnown_8 : decode cX6_addKnown 8 = .ok (.ifCond .eq 7, 3) := by decide +kernel
theorem dX6_addKnown_11 : decode cX6_addKnown 11 = .ok (.iload_n 3, 1) := by decide +kernel
theorem dX6_addKnown_12 : decode cX6_addKnown 12 = .ok (.goto 4, 3) := by decide +kernel
theorem dX6_addKnown_15 : decode cX6_addKnown 15 = .ok (.iconst 0, 1) := by decide +kernel
theorem dX6_addKnown_16 : decode cX6_addKnown 16 = .ok (.istore 5, 2) := by decide +kernel
theorem dX6_addKnown_18 : decode cX6_addKnown 18 = .ok (.aload_n 0, 1) := by decide +kernel
theorem dX6_addKnown_19 : decode cX6_addKnown 19 = .ok (.getfield 78, 3) := by decide +kernel
theorem dX6_addKnown_22 : decode cX6_addKnown 22 = .ok (.bipush 40, 2) := by decide +kernel
theorem dX6_addKnown_24 : decode cX6_addKnown 24 = .ok (.if_icmp .ge 34, 3) := by decide +kernel
theorem dX6_addKnown_27 : decode cX6_addKnown 27 = .ok (.aload_n 0, 1) := by decide +kernel
theorem dX6_addKnown_28 : decode cX6_addKnown 28 = .ok (.getfield 12, 3) := by decide +kernel
theorem dX6_addKnown_31 : decode cX6_addKnown 31 = .ok (.iload_n 1, 1) := by decide +kernel
theorem dX6_addKnown_32 : decode cX6_addKnown 32 = .ok (.invokevirtual 113, 3) := by decide +kernel
theorem dX6_addKnown_35 : decode cX6_addKnown 35 = .ok (.ifCond .eq 23, 3) := by decide +kernel
theorem dX6_addKnown_38 : decode cX6_addKnown 38 = .ok (.iload_n 2, 1) := by decide +kernel
theorem dX6_addKnown_39 : decode cX6_addKnown 39 = .ok (.ifCond .lt 19, 3) := by decide +kernel
theorem dX6_addKnown_42 : decode cX6_addKnown 42 = .ok (.iload_n 2, 1) := by decide +kernel
theorem dX6_addKnown_43 : decode cX6_addKnown 43 = .ok (.iconst 3, 1) := by decide +kernel
theorem dX6_addKnown_44 : decode cX6_addKnown 44 = .ok (.if_icmp .ge 14, 3) := by decide +kernel
theorem dX6_addKnown_47 : decode cX6_addKnown 47 = .ok (.iload 5, 2) := by decide +kernel
theorem dX6_addKnown_49 : decode cX6_addKnown 49 = .ok (.ifCond .lt 9, 3) := by decide +kernel
theorem dX6_addKnown_52 : decode cX6_addKnown 52 = .ok (.iload 5, 2) := by decide +kernel
theorem dX6_addKnown_54 : decode cX6_addKnown 54 = .ok (.iconst 3, 1) := by decide +kernel
theorem dX6_addKnown_55 : decode cX6_addKnown 55 = .ok (.if_icmp .lt 5, 3) := by decide +kernel
theorem dX6_addKnown_58 : decode cX6_addKnown 58 = .ok (.iconst 0, 1) := by decide +kernel
theorem dX6_addKnown_59 : decode cX6_addKnown 59 = .ok (.ireturn, 1) := by decide +kernel
theorem dX6_addKnown_60 : decode cX6_addKnown 60 = .ok (.aload_n 0, 1) := by decide +kernel
theorem dX6_addKnown_61 : decode cX6_addKnown 61 = .ok (.getfield 69, 3) := by decide +kernel
theorem dX6_addKnown_64 : decode cX6_addKnown 64 = .ok (.aload_n 0, 1) := by decide +kernel
theorem dX6_addKnown_65 : decode cX6_addKnown 65 = .ok (.getfield 78, 3) := by decide +kernel
theorem dX6_addKnown_68 : decode cX6_addKnown 68 = .ok (.iload_n 1, 1) := by decide +kernel
theorem dX6_addKnown_69 : decode cX6_addKnown 69 = .ok (.iconst 3, 1) := by decide +kernel
theorem dX6_addKnown_70 : decode cX6_addKnown 70 = .ok (.imul, 1) := by decide +kernel
theorem dX6_addKnown_71 : decode cX6_addKnown 71 = .ok (.iload_n 2, 1) := by decide +kernel
theorem dX6_addKnown_72 : decode cX6_addKnown 72 = .ok (.iadd, 1) := by decide +kernel
theorem dX6_addKnown_73 : decode cX6_addKnown 73 = .ok (.iconst 3, 1) := by decide +kernel
theorem dX6_addKnown_74 : decode cX6_addKnown 74 = .ok (.imul, 1) := by decide +kernel
theorem dX6_addKnown_75 : decode cX6_addKnown 75 = .ok (.iload 5, 2) := by decide +kernel
theorem dX6_addKnown_77 : decode cX6_addKnown 77 = .ok (.iadd, 1) := by decide +kernel
theorem dX6_addKnown_78 : decode cX6_addKnown 78 = .ok (.iastore, 1) := by decide +kernel
theorem dX6_addKnown_79 : decode cX6_addKnown 79 = .ok (.aload_n 0, 1) := by decide +kernel
theorem dX6_addKnown_80 : decode cX6_addKnown 80 = .ok (.getfield 72, 3) := by decide +kernel
theorem dX6_addKnown_83 : decode cX6_addKnown 83 = .ok (.aload_n 0, 1) := by decide +kernel
theorem dX6_addKnown_84 : decode cX6_addKnown 84 = .ok (.getfield 78, 3) := by decide +kernel
theorem dX6_addKnown_87 : decode cX6_addKnown 87 = .ok (.iload 4, 2) := by decide +kernel
theorem dX6_addKnown_89 : decode cX6_addKnown 89 = .ok (.bastore, 1) := by decide +kernel
theorem dX6_addKnown_90 : decode cX6_addKnown 90 = .ok (.aload_n 0, 1) := by decide +kernel
theorem dX6_addKnown_91 : decode cX6_addKnown 91 = .ok (.getfield 75, 3) := by decide +kernel
theorem dX6_addKnown_94 : decode cX6_addKnown 94 = .ok (.aload_n 0, 1) := by decide +kernel
theorem dX6_addKnown_95 : decode cX6_addKnown 95 = .ok (.getfield 78, 3) := by decide +kernel
theorem dX6_addKnown_98 : decode cX6_addKnown 98 = .ok (.aload_n 0, 1) := by decide +kernel
theorem dX6_addKnown_99 : decode cX6_addKnown 99 = .ok (.getfield 63, 3) := by decide +kernel
theorem dX6_addKnown_102 : decode cX6_addKnown 102 = .ok (.iastore, 1) := by decide +kernel
theorem dX6_addKnown_103 : decode cX6_addKnown 103 = .ok (.aload_n 0, 1) := by decide +kernel
theorem dX6_addKnown_104 : decode cX6_addKnown 104 = .ok (.dup, 1) := by decide +kernel
theorem dX6_addKnown_105 : decode cX6_addKnown 105 = .ok (.getfield 78, 3) := by decide +kernel
theorem dX6_addKnown_108 : decode cX6_addKnown 108 = .ok (.iconst 1, 1) := by decide +kernel
theorem dX6_addKnown_109 : decode cX6_addKnown 109 = .ok (.iadd, 1) := by decide +kernel
theorem dX6_addKnown_110 : decode cX6_addKnown 110 = .ok (.putfield 78, 3) := by decide +kernel
theorem dX6_addKnown_113 : decode cX6_addKnown 113 = .ok (.iconst 1, 1) := by decide +kernel
theorem dX6_addKnown_114 : decode cX6_addKnown 114 = .ok (.ireturn, 1) := by decide +kernel
theorem dX6_knownOf_0 : decode cX6_knownOf 0 = .ok (.iload_n 1, 1) := by decide +kernel
theorem dX6_knownOf_1 : decode cX6_knownOf 1 = .ok (.iconst 3, 1) := by decide +kernel
theorem dX6_knownOf_2 : decode cX6_knownOf 2 = .ok (.imul, 1) := by decide +kernel
theorem dX6_knownOf_3 : decode cX6_knownOf 3 = .ok (.iload_n 2, 1) := by decide +kernel
theorem dX6_knownOf_4 : decode cX6_knownOf 4 = .ok (.iadd, 1) := by decide +kernel
theorem dX6_knownOf_5 : decode cX6_knownOf 5 = .ok (.iconst 3, 1) := by decide +kernel
theorem dX6_knownOf_6 : decode cX6_knownOf 6 = .ok (.imul, 1) := by decide +kernel
theorem dX6_knownOf_7 : decode cX6_knownOf 7 = .ok (.iload_n 3, 1) := by decide +kernel
theorem dX6_knownOf_8 : decode cX6_knownOf 8 = .ok (.iadd, 1) := by decide +kernel
theorem dX6_knownOf_9 : decode cX6_knownOf 9 = .ok (.istore 4, 2) := by decide +kernel
theorem dX6_knownOf_11 : decode cX6_knownOf 11 = .ok (.iconst (-1), 1) := by decide +kernel
theorem dX6_knownOf_12 : decode cX6_knownOf 12 = .ok (.istore 5, 2) := by decide +kernel
theorem dX6_knownOf_14 : decode cX6_knownOf 14 = .ok (.iconst 0, 1) := by decide +kernel
theorem dX6_knownOf_15 : decode cX6_knownOf 15 = .ok (.istore 6, 2) := by decide +kernel
theorem dX6_knownOf_17 : decode cX6_knownOf 17 = .ok (.iload 6, 2) := by decide +kernel
theorem dX6_knownOf_19 : decode cX6_knownOf 19 = .ok (.aload_n 0, 1) := by decide +kernel
theorem dX6_knownOf_20 : decode cX6_knownOf 20 = .ok (.getfield 78, 3) := by decide +kernel
theorem dX6_knownOf_23 : decode cX6_knownOf 23 = .ok (.if_icmp .ge 52, 3) := by decide +kernel
theorem dX6_knownOf_26 : decode cX6_knownOf 26 = .ok (.aload_n 0, 1) := by decide +kernel
theorem dX6_knownOf_27 : decode cX6_knownOf 27 = .ok (.getfield 69, 3) := by decide +kernel
theorem dX6_knownOf_30 : decode cX6_knownOf 30 = .ok (.iload 6, 2) := by decide +kernel
theorem dX6_knownOf_32 : decode cX6_knownOf 32 = .ok (.iaload, 1) := by decide +kernel
theorem dX6_knownOf_33 : decode cX6_knownOf 33 = .ok (.iload 4, 2) := by decide +kernel
theorem dX6_knownOf_35 : decode cX6_knownOf 35 = .ok (.if_icmp .ne 34, 3) := by decide +kernel
theorem dX6_knownOf_38 : decode cX6_knownOf 38 = .ok (.aload_n 0, 1) := by decide +kernel
theorem dX6_knownOf_39 : decode cX6_knownOf 39 = .ok (.getfield 75, 3) := by decide +kernel
theorem dX6_knownOf_42 : decode cX6_knownOf 42 = .ok (.iload 6, 2) := by decide +kernel
theorem dX6_knownOf_44 : decode cX6_knownOf 44 = .ok (.iaload, 1) := by decide +kernel
theorem dX6_knownOf_45 : decode cX6_knownOf 45 = .ok (.aload_n 0, 1) := by decide +kernel
theorem dX6_knownOf_46 : decode cX6_knownOf 46 = .ok (.invokevirtual 106, 3) := by decide +kernel
theorem dX6_knownOf_49 : decode cX6_knownOf 49 = .ok (.if_icmp .gt 20, 3) := by decide +kernel
theorem dX6_knownOf_52 : decode cX6_knownOf 52 = .ok (.aload_n 0, 1) := by decide +kernel
theorem dX6_knownOf_53 : decode cX6_knownOf 53 = .ok (.getfield 72, 3) := by decide +kernel
theorem dX6_knownOf_56 : decode cX6_knownOf 56 = .ok (.iload 6, 2) := by decide +kernel
theorem dX6_knownOf_58 : decode cX6_knownOf 58 = .ok (.baload, 1) := by decide +kernel
theorem dX6_knownOf_59 : decode cX6_knownOf 59 = .ok (.ifCond .eq 7, 3) := by decide +kernel
theorem dX6_knownOf_62 : decode cX6_knownOf 62 = .ok (.iconst 1, 1) := by decide +kernel
theorem dX6_knownOf_63 : decode cX6_knownOf 63 = .ok (.goto 4, 3) := by decide +kernel
theorem dX6_knownOf_66 : decode cX6_knownOf 66 = .ok (.iconst 0, 1) := by decide +kernel
theorem dX6_knownOf_67 : decode cX6_knownOf 67 = .ok (.istore 5, 2) := by decide +kernel
theorem dX6_knownOf_69 : decode cX6_knownOf 69 = .ok (.iinc 6 1, 3) := by decide +kernel
theorem dX6_knownOf_72 : decode cX6_knownOf 72 = .ok (.goto (-55), 3) := by decide +kernel
theorem dX6_knownOf_75 : decode cX6_knownOf 75 = .ok (.iload 5, 2) := by decide +kernel
theorem dX6_knownOf_77 : decode cX6_knownOf 77 = .ok (.ireturn, 1) := by decide +kernel
theorem dX7_init_0 : decode cX7_init 0 = .ok (.aload_n 0, 1) := by decide +kernel
theorem dX7_init_1 : decode cX7_init 1 = .ok (.invokespecial 3, 3) := by decide +kernel
theorem dX7_init_4 : decode cX7_init 4 = .ok (.aload_n 0, 1) := by decide +kernel
theorem dX7_init_5 : decode cX7_init 5 = .ok (.bipush 64, 2) := by decide +kernel
theorem dX7_init_7 : decode cX7_init 7 = .ok (.newarray .long, 2) := by decide +kernel
theorem dX7_init_9 : decode cX7_init 9 = .ok (.putfield 9, 3) := by decide +kernel
theorem dX7_init_12 : decode cX7_init 12 = .ok (.aload_n 0, 1) := by decide +kernel
theorem dX7_init_13 : decode cX7_init 13 = .ok (.iconst 0, 1) := by decide +kernel
theorem dX7_init_14 : decode cX7_init 14 = .ok (.putfield 15, 3) := by decide +kernel
theorem dX7_init_17 : decode cX7_init 17 = .ok (.aload_n 0, 1) := by decide +kernel
theorem dX7_init_18 : decode cX7_init 18 = .ok (.iconst 0, 1) := by decide +kernel
theorem dX7_init_19 : decode cX7_init 19 = .ok (.putfield 19, 3) := by decide +kernel
theorem dX7_init_22 : decode cX7_init 22 = .ok (.return_, 1) := by decide +kernel
theorem dX7_takeNone_0 : decode cX7_takeNone 0 = .ok (.aload_n 0, 1) := by decide +kernel
theorem dX7_takeNone_1 : decode cX7_takeNone 1 = .ok (.iconst 0, 1) := by decide +kernel
theorem dX7_takeNone_2 : decode cX7_takeNone 2 = .ok (.iload_n 1, 1) := by decide +kernel
theorem dX7_takeNone_3 : decode cX7_takeNone 3 = .ok (.bipush 12, 2) := by decide +kernel
theorem dX7_takeNone_5 : decode cX7_takeNone 5 = .ok (.invokestatic 22, 3) := by decide +kernel
theorem dX7_takeNone_8 : decode cX7_takeNone 8 = .ok (.invokestatic 28, 3) := by decide +kernel
theorem dX7_takeNone_11 : decode cX7_takeNone 11 = .ok (.putfield 19, 3) := by decide +kernel
theorem dX7_takeNone_14 : decode cX7_takeNone 14 = .ok (.aload_n 0, 1) := by decide +kernel
theorem dX7_takeNone_15 : decode cX7_takeNone 15 = .ok (.aload_n 0, 1) := by decide +kernel
theorem dX7_takeNone_16 : decode cX7_takeNone 16 = .ok (.getfield 19, 3) := by decide +kernel
theorem dX7_takeNone_19 : decode cX7_takeNone 19 = .ok (.bipush 6, 2) := by decide +kernel
theorem dX7_takeNone_21 : decode cX7_takeNone 21 = .ok (.if_icmp .gt 7, 3) := by decide +kernel
theorem dX7_takeNone_24 : decode cX7_takeNone 24 = .ok (.iconst 1, 1) := by decide +kernel
theorem dX7_takeNone_25 : decode cX7_takeNone 25 = .ok (.goto 12, 3) := by decide +kernel
theorem dX7_takeNone_28 : decode cX7_takeNone 28 = .ok (.iconst 1, 1) := by decide +kernel
theorem dX7_takeNone_29 : decode cX7_takeNone 29 = .ok (.aload_n 0, 1) := by decide +kernel
theorem dX7_takeNone_30 : decode cX7_takeNone 30 = .ok (.getfield 19, 3) := by decide +kernel
theorem dX7_takeNone_33 : decode cX7_takeNone 33 = .ok (.bipush 6, 2) := by decide +kernel
theorem dX7_takeNone_35 : decode cX7_takeNone 35 = .ok (.isub, 1) := by decide +kernel
theorem dX7_takeNone_36 : decode cX7_takeNone 36 = .ok (.ishl, 1) := by decide +kernel
theorem dX7_takeNone_37 : decode cX7_takeNone 37 = .ok (.putfield 15, 3) := by decide +kernel
theorem dX7_takeNone_40 : decode cX7_takeNone 40 = .ok (.iconst 0, 1) := by decide +kernel
theorem dX7_takeNone_41 : decode cX7_takeNone 41 = .ok (.istore_n 2, 1) := by decide +kernel
theorem dX7_takeNone_42 : decode cX7_takeNone 42 = .ok (.iload_n 2, 1) := by decide +kernel
theorem dX7_takeNone_43 : decode cX7_takeNone 43 = .ok (.aload_n 0, 1) := by decide +kernel
theorem dX7_takeNone_44 : decode cX7_takeNone 44 = .ok (.getfield 15, 3) := by decide +kernel
theorem dX7_takeNone_47 : decode cX7_takeNone 47 = .ok (.if_icmp .ge 16, 3) := by decide +kernel
theorem dX7_takeNone_50 : decode cX7_takeNone 50 = .ok (.aload_n 0, 1) := by decide +kernel
theorem dX7_takeNone_51 : decode cX7_takeNone 51 = .ok (.getfield 9, 3) := by decide +kernel
theorem dX7_takeNone_54 : decode cX7_takeNone 54 = .ok (.iload_n 2, 1) := by decide +kernel
theorem dX7_takeNone_55 : decode cX7_takeNone 55 = .ok (.lconst 0, 1) := by decide +kernel
theorem dX7_takeNone_56 : decode cX7_takeNone 56 = .ok (.lastore, 1) := by decide +kernel
theorem dX7_takeNone_57 : decode cX7_takeNone 57 = .ok (.iinc 2 1, 3) := by decide +kernel
theorem dX7_takeNone_60 : decode cX7_takeNone 60 = .ok (.goto (-18), 3) := by decide +kernel
theorem dX7_takeNone_63 : decode cX7_takeNone 63 = .ok (.return_, 1) := by decide +kernel
theorem dX7_takeAll_0 : decode cX7_takeAll 0 = .ok (.aload_n 0, 1) := by decide +kernel
theorem dX7_takeAll_1 : decode cX7_takeAll 1 = .ok (.iload_n 1, 1) := by decide +kernel
theorem dX7_takeAll_2 : decode cX7_takeAll 2 = .ok (.invokevirtual 31, 3) := by decide +kernel
theorem dX7_takeAll_5 : decode cX7_takeAll 5 = .ok (.iconst 0, 1) := by decide +kernel
theorem dX7_takeAll_6 : decode cX7_takeAll 6 = .ok (.istore_n 2, 1) := by decide +kernel
theorem dX7_takeAll_7 : decode cX7_takeAll 7 = .ok (.iload_n 2, 1) := by decide +kernel
theorem dX7_takeAll_8 : decode cX7_takeAll 8 = .ok (.aload_n 0, 1) := by decide +kernel
theorem dX7_takeAll_9 : decode cX7_takeAll 9 = .ok (.getfield 15, 3) := by decide +kernel
theorem dX7_takeAll_12 : decode cX7_takeAll 12 = .ok (.if_icmp .ge 40, 3) := by decide +kernel
theorem dX7_takeAll_15 : decode cX7_takeAll 15 = .ok (.aload_n 0, 1) := by decide +kernel
theorem dX7_takeAll_16 : decode cX7_takeAll 16 = .ok (.getfield 9, 3) := by decide +kernel
theorem dX7_takeAll_19 : decode cX7_takeAll 19 = .ok (.iload_n 2, 1) := by decide +kernel
theorem dX7_takeAll_20 : decode cX7_takeAll 20 = .ok (.aload_n 0, 1) := by decide +kernel
theorem dX7_takeAll_21 : decode cX7_takeAll 21 = .ok (.getfield 19, 3) := by decide +kernel
theorem dX7_takeAll_24 : decode cX7_takeAll 24 = .ok (.bipush 6, 2) := by decide +kernel
theorem dX7_takeAll_26 : decode cX7_takeAll 26 = .ok (.if_icmp .ge 16, 3) := by decide +kernel
theorem dX7_takeAll_29 : decode cX7_takeAll 29 = .ok (.lconst 1, 1) := by decide +kernel
theorem dX7_takeAll_30 : decode cX7_takeAll 30 = .ok (.iconst 1, 1) := by decide +kernel
theorem dX7_takeAll_31 : decode cX7_takeAll 31 = .ok (.aload_n 0, 1) := by decide +kernel
theorem dX7_takeAll_32 : decode cX7_takeAll 32 = .ok (.getfield 19, 3) := by decide +kernel
theorem dX7_takeAll_35 : decode cX7_takeAll 35 = .ok (.ishl, 1) := by decide +kernel
theorem dX7_takeAll_36 : decode cX7_takeAll 36 = .ok (.lshl, 1) := by decide +kernel
theorem dX7_takeAll_37 : decode cX7_takeAll 37 = .ok (.lconst 1, 1) := by decide +kernel
theorem dX7_takeAll_38 : decode cX7_takeAll 38 = .ok (.lsub, 1) := by decide +kernel
theorem dX7_takeAll_39 : decode cX7_takeAll 39 = .ok (.goto 6, 3) := by decide +kernel
theorem dX7_takeAll_42 : decode cX7_takeAll 42 = .ok (.ldc2_w 35, 3) := by decide +kernel
theorem dX7_takeAll_45 : decode cX7_takeAll 45 = .ok (.lastore, 1) := by decide +kernel
theorem dX7_takeAll_46 : decode cX7_takeAll 46 = .ok (.iinc 2 1, 3) := by decide +kernel
theorem dX7_takeAll_49 : decode cX7_takeAll 49 = .ok (.goto (-42), 3) := by decide +kernel
theorem dX7_takeAll_52 : decode cX7_takeAll 52 = .ok (.return_, 1) := by decide +kernel
theorem dX7_copy_0 : decode cX7_copy 0 = .ok (.aload_n 0, 1) := by decide +kernel
theorem dX7_copy_1 : decode cX7_copy 1 = .ok (.aload_n 1, 1) := by decide +kernel
theorem dX7_copy_2 : decode cX7_copy 2 = .ok (.getfield 19, 3) := by decide +kernel
theorem dX7_copy_5 : decode cX7_copy 5 = .ok (.putfield 19, 3) := by decide +kernel
theorem dX7_copy_8 : decode cX7_copy 8 = .ok (.aload_n 0, 1) := by decide +kernel
theorem dX7_copy_9 : decode cX7_copy 9 = .ok (.aload_n 1, 1) := by decide +kernel
theorem dX7_copy_10 : decode cX7_copy 10 = .ok (.getfield 15, 3) := by decide +kernel
theorem dX7_copy_13 : decode cX7_copy 13 = .ok (.putfield 15, 3) := by decide +kernel
theorem dX7_copy_16 : decode cX7_copy 16 = .ok (.aload_n 1, 1) := by decide +kernel
theorem dX7_copy_17 : decode cX7_copy 17 = .ok (.getfield 9, 3) := by decide +kernel
theorem dX7_copy_20 : decode cX7_copy 20 = .ok (.iconst 0, 1) := by decide +kernel
theorem dX7_copy_21 : decode cX7_copy 21 = .ok (.aload_n 0, 1) := by decide +kernel
theorem dX7_copy_22 : decode cX7_copy 22 = .ok (.getfield 9, 3) := by decide +kernel
theorem dX7_copy_25 : decode cX7_copy 25 = .ok (.iconst 0, 1) := by decide +kernel
theorem dX7_copy_26 : decode cX7_copy 26 = .ok (.aload_n 0, 1) := by decide +kernel
theorem dX7_copy_27 : decode cX7_copy 27 = .ok (.getfield 15, 3) := by decide +kernel
theorem dX7_copy_30 : decode cX7_copy 30 = .ok (.invokestatic 37, 3) := by decide +kernel
theorem dX7_copy_33 : decode cX7_copy 33 = .ok (.return_, 1) := by decide +kernel
theorem dX7_usedWords_0 : decode cX7_usedWords 0 = .ok (.aload_n 0, 1) := by decide +kernel
theorem dX7_usedWords_1 : decode cX7_usedWords 1 = .ok (.getfield 15, 3) := by decide +kernel
theorem dX7_usedWords_4 : decode cX7_usedWords 4 = .ok (.ireturn, 1) := by decide +kernel
theorem dX7_most_0 : decode cX7_most 0 = .ok (.iconst 1, 1) := by decide +kernel
theorem dX7_most_1 : decode cX7_most 1 = .ok (.aload_n 0, 1) := by decide +kernel
theorem dX7_most_2 : decode cX7_most 2 = .ok (.getfield 19, 3) := by decide +kernel
theorem dX7_most_5 : decode cX7_most 5 = .ok (.ishl, 1) := by decide +kernel
theorem dX7_most_6 : decode cX7_most 6 = .ok (.ireturn, 1) := by decide +kernel
theorem dX7_add_0 : decode cX7_add 0 = .ok (.iload_n 1, 1) := by decide +kernel
theorem dX7_add_1 : decode cX7_add 1 = .ok (.ifCond .lt 26, 3) := by decide +kernel
theorem dX7_add_4 : decode cX7_add 4 = .ok (.iload_n 1, 1) := by decide +kernel
theorem dX7_add_5 : decode cX7_add 5 = .ok (.aload_n 0, 1) := by decide +kernel
theorem dX7_add_6 : decode cX7_add 6 = .ok (.invokevirtual 43, 3) := by decide +kernel
theorem dX7_add_9 : decode cX7_add 9 = .ok (.if_icmp .ge 18, 3) := by decide +kernel
theorem dX7_add_12 : decode cX7_add 12 = .ok (.aload_n 0, 1) := by decide +kernel
theorem dX7_add_13 : decode cX7_add 13 = .ok (.getfield 9, 3) := by decide +kernel
theorem dX7_add_16 : decode cX7_add 16 = .ok (.iload_n 1, 1) := by decide +kernel
theorem dX7_add_17 : decode cX7_add 17 = .ok (.bipush 6, 2) := by decide +kernel
theorem dX7_add_19 : decode cX7_add 19 = .ok (.ishr, 1) := by decide +kernel
theorem dX7_add_20 : decode cX7_add 20 = .ok (.dup2, 1) := by decide +kernel
theorem dX7_add_21 : decode cX7_add 21 = .ok (.laload, 1) := by decide +kernel
theorem dX7_add_22 : decode cX7_add 22 = .ok (.lconst 1, 1) := by decide +kernel
theorem dX7_add_23 : decode cX7_add 23 = .ok (.iload_n 1, 1) := by decide +kernel
theorem dX7_add_24 : decode cX7_add 24 = .ok (.lshl, 1) := by decide +kernel
theorem dX7_add_25 : decode cX7_add 25 = .ok (.lor, 1) := by decide +kernel
theorem dX7_add_26 : decode cX7_add 26 = .ok (.lastore, 1) := by decide +kernel
theorem dX7_add_27 : decode cX7_add 27 = .ok (.return_, 1) := by decide +kernel
theorem dX7_has_0 : decode cX7_has 0 = .ok (.iload_n 1, 1) := by decide +kernel
theorem dX7_has_1 : decode cX7_has 1 = .ok (.ifCond .lt 33, 3) := by decide +kernel
theorem dX7_has_4 : decode cX7_has 4 = .ok (.iload_n 1, 1) := by decide +kernel
theorem dX7_has_5 : decode cX7_has 5 = .ok (.aload_n 0, 1) := by decide +kernel
theorem dX7_has_6 : decode cX7_has 6 = .ok (.invokevirtual 43, 3) := by decide +kernel
theorem dX7_has_9 : decode cX7_has 9 = .ok (.if_icmp .ge 25, 3) := by decide +kernel
theorem dX7_has_12 : decode cX7_has 12 = .ok (.aload_n 0, 1) := by decide +kernel
theorem dX7_has_13 : decode cX7_has 13 = .ok (.getfield 9, 3) := by decide +kernel
theorem dX7_has_16 : decode cX7_has 16 = .ok (.iload_n 1, 1) := by decide +kernel
theorem dX7_has_17 : decode cX7_has 17 = .ok (.bipush 6, 2) := by decide +kernel
theorem dX7_has_19 : decode cX7_has 19 = .ok (.ishr, 1) := by decide +kernel
theorem dX7_has_20 : decode cX7_has 20 = .ok (.laload, 1) := by decide +kernel
theorem dX7_has_21 : decode cX7_has 21 = .ok (.iload_n 1, 1) := by decide +kernel
theorem dX7_has_22 : decode cX7_has 22 = .ok (.lshr, 1) := by decide +kernel
theorem dX7_has_23 : decode cX7_has 23 = .ok (.lconst 1, 1) := by decide +kernel
theorem dX7_has_24 : decode cX7_has 24 = .ok (.land, 1) := by decide +kernel
theorem dX7_has_25 : decode cX7_has 25 = .ok (.lconst 0, 1) := by decide +kernel
theorem dX7_has_26 : decode cX7_has 26 = .ok (.lcmp, 1) := by decide +kernel
theorem dX7_has_27 : decode cX7_has 27 = .ok (.ifCond .eq 7, 3) := by decide +kernel
theorem dX7_has_30 : decode cX7_has 30 = .ok (.iconst 1, 1) := by decide +kernel
theorem dX7_has_31 : decode cX7_has 31 = .ok (.goto 4, 3) := by decide +kernel
theorem dX7_has_34 : decode cX7_has 34 = .ok (.iconst 0, 1) := by decide +kernel
theorem dX7_has_35 : decode cX7_has 35 = .ok (.ireturn, 1) := by decide +kernel
theorem dX7_keepOnly_0 : decode cX7_keepOnly 0 = .ok (.iconst 0, 1) := by decide +kernel
theorem dX7_keepOnly_1 : decode cX7_keepOnly 1 = .ok (.istore_n 2, 1) := by decide +kernel
theorem dX7_keepOnly_2 : decode cX7_keepOnly 2 = .ok (.iload_n 2, 1) := by decide +kernel
theorem dX7_keepOnly_3 : decode cX7_keepOnly 3 = .ok (.aload_n 0, 1) := by decide +kernel
theorem dX7_keepOnly_4 : decode cX7_keepOnly 4 = .ok (.getfield 15, 3) := by decide +kernel
theorem dX7_keepOnly_7 : decode cX7_keepOnly 7 = .ok (.if_icmp .ge 24, 3) := by decide +kernel
theorem dX7_keepOnly_10 : decode cX7_keepOnly 10 = .ok (.aload_n 0, 1) := by decide +kernel
theorem dX7_keepOnly_11 : decode cX7_keepOnly 11 = .ok (.getfield 9, 3) := by decide +kernel
theorem dX7_keepOnly_14 : decode cX7_keepOnly 14 = .ok (.iload_n 2, 1) := by decide +kernel
theorem dX7_keepOnly_15 : decode cX7_keepOnly 15 = .ok (.dup2, 1) := by decide +kernel
theorem dX7_keepOnly_16 : decode cX7_keepOnly 16 = .ok (.laload, 1) := by decide +kernel
theorem dX7_keepOnly_17 : decode cX7_keepOnly 17 = .ok (.aload_n 1, 1) := by decide +kernel
theorem dX7_keepOnly_18 : decode cX7_keepOnly 18 = .ok (.getfield 9, 3) := by decide +kernel
theorem dX7_keepOnly_21 : decode cX7_keepOnly 21 = .ok (.iload_n 2, 1) := by decide +kernel
theorem dX7_keepOnly_22 : decode cX7_keepOnly 22 = .ok (.laload, 1) := by decide +kernel
theorem dX7_keepOnly_23 : decode cX7_keepOnly 23 = .ok (.land, 1) := by decide +kernel
theorem dX7_keepOnly_24 : decode cX7_keepOnly 24 = .ok (.lastore, 1) := by decide +kernel
theorem dX7_keepOnly_25 : decode cX7_keepOnly 25 = .ok (.iinc 2 1, 3) := by decide +kernel
theorem dX7_keepOnly_28 : decode cX7_keepOnly 28 = .ok (.goto (-26), 3) := by decide +kernel
theorem dX7_keepOnly_31 : decode cX7_keepOnly 31 = .ok (.return_, 1) := by decide +kernel
theorem dX7_drop_0 : decode cX7_drop 0 = .ok (.iconst 0, 1) := by decide +kernel
theorem dX7_drop_1 : decode cX7_drop 1 = .ok (.istore_n 2, 1) := by decide +kernel
theorem dX7_drop_2 : decode cX7_drop 2 = .ok (.iload_n 2, 1) := by decide +kernel
theorem dX7_drop_3 : decode cX7_drop 3 = .ok (.aload_n 0, 1) := by decide +kernel
theorem dX7_drop_4 : decode cX7_drop 4 = .ok (.getfield 15, 3) := by decide +kernel
theorem dX7_drop_7 : decode cX7_drop 7 = .ok (.if_icmp .ge 28, 3) := by decide +kernel
theorem dX7_drop_10 : decode cX7_drop 10 = .ok (.aload_n 0, 1) := by decide +kernel
theorem dX7_drop_11 : decode cX7_drop 11 = .ok (.getfield 9, 3) := by decide +kernel
theorem dX7_drop_14 : decode cX7_drop 14 = .ok (.iload_n 2, 1) := by decide +kernel
theorem dX7_drop_15 : decode cX7_drop 15 = .ok (.dup2, 1) := by decide +kernel
theorem dX7_drop_16 : decode cX7_drop 16 = .ok (.laload, 1) := by decide +kernel
theorem dX7_drop_17 : decode cX7_drop 17 = .ok (.aload_n 1, 1) := by decide +kernel
theorem dX7_drop_18 : decode cX7_drop 18 = .ok (.getfield 9, 3) := by decide +kernel
theorem dX7_drop_21 : decode cX7_drop 21 = .ok (.iload_n 2, 1) := by decide +kernel
theorem dX7_drop_22 : decode cX7_drop 22 = .ok (.laload, 1) := by decide +kernel
theorem dX7_drop_23 : decode cX7_drop 23 = .ok (.ldc2_w 35, 3) := by decide +kernel
theorem dX7_drop_26 : decode cX7_drop 26 = .ok (.lxor, 1) := by decide +kernel
theorem dX7_drop_27 : decode cX7_drop 27 = .ok (.land, 1) := by decide +kernel
theorem dX7_drop_28 : decode cX7_drop 28 = .ok (.lastore, 1) := by decide +kernel
theorem dX7_drop_29 : decode cX7_drop 29 = .ok (.iinc 2 1, 3) := by decide +kernel
theorem dX7_drop_32 : decode cX7_drop 32 = .ok (.goto (-30), 3) := by decide +kernel
theorem dX7_drop_35 : decode cX7_drop 35 = .ok (.return_, 1) := by decide +kernel
theorem dX7_keepWhere_0 : decode cX7_keepWhere 0 = .ok (.iconst 0, 1) := by decide +kernel
theorem dX7_keepWhere_1 : decode cX7_keepWhere 1 = .ok (.istore_n 3, 1) := by decide +kernel
theorem dX7_keepWhere_2 : decode cX7_keepWhere 2 = .ok (.iload_n 3, 1) := by decide +kernel
theorem dX7_keepWhere_3 : decode cX7_keepWhere 3 = .ok (.aload_n 0, 1) := by decide +kernel
theorem dX7_keepWhere_4 : decode cX7_keepWhere 4 = .ok (.getfield 15, 3) := by decide +kernel
theorem dX7_keepWhere_7 : decode cX7_keepWhere 7 = .ok (.if_icmp .ge 39, 3) := by decide +kernel
theorem dX7_keepWhere_10 : decode cX7_keepWhere 10 = .ok (.aload_n 0, 1) := by decide +kernel
theorem dX7_keepWhere_11 : decode cX7_keepWhere 11 = .ok (.getfield 9, 3) := by decide +kernel
theorem dX7_keepWhere_14 : decode cX7_keepWhere 14 = .ok (.iload_n 3, 1) := by decide +kernel
theorem dX7_keepWhere_15 : decode cX7_keepWhere 15 = .ok (.dup2, 1) := by decide +kernel
theorem dX7_keepWhere_16 : decode cX7_keepWhere 16 = .ok (.laload, 1) := by decide +kernel
theorem dX7_keepWhere_17 : decode cX7_keepWhere 17 = .ok (.iload_n 2, 1) := by decide +kernel
theorem dX7_keepWhere_18 : decode cX7_keepWhere 18 = .ok (.ifCond .eq 11, 3) := by decide +kernel
theorem dX7_keepWhere_21 : decode cX7_keepWhere 21 = .ok (.iload_n 1, 1) := by decide +kernel
theorem dX7_keepWhere_22 : decode cX7_keepWhere 22 = .ok (.iload_n 3, 1) := by decide +kernel
theorem dX7_keepWhere_23 : decode cX7_keepWhere 23 = .ok (.invokestatic 47, 3) := by decide +kernel
theorem dX7_keepWhere_26 : decode cX7_keepWhere 26 = .ok (.goto 12, 3) := by decide +kernel
theorem dX7_keepWhere_29 : decode cX7_keepWhere 29 = .ok (.iload_n 1, 1) := by decide +kernel
theorem dX7_keepWhere_30 : decode cX7_keepWhere 30 = .ok (.iload_n 3, 1) := by decide +kernel
theorem dX7_keepWhere_31 : decode cX7_keepWhere 31 = .ok (.invokestatic 47, 3) := by decide +kernel
theorem dX7_keepWhere_34 : decode cX7_keepWhere 34 = .ok (.ldc2_w 35, 3) := by decide +kernel
theorem dX7_keepWhere_37 : decode cX7_keepWhere 37 = .ok (.lxor, 1) := by decide +kernel
theorem dX7_keepWhere_38 : decode cX7_keepWhere 38 = .ok (.land, 1) := by decide +kernel
theorem dX7_keepWhere_39 : decode cX7_keepWhere 39 = .ok (.lastore, 1) := by decide +kernel
theorem dX7_keepWhere_40 : decode cX7_keepWhere 40 = .ok (.iinc 3 1, 3) := by decide +kernel
theorem dX7_keepWhere_43 : decode cX7_keepWhere 43 = .ok (.goto (-41), 3) := by decide +kernel
theorem dX7_keepWhere_46 : decode cX7_keepWhere 46 = .ok (.return_, 1) := by decide +kernel
theorem dX7_countWhere_0 : decode cX7_countWhere 0 = .ok (.iconst 0, 1) := by decide +kernel
theorem dX7_countWhere_1 : decode cX7_countWhere 1 = .ok (.istore_n 2, 1) := by decide +kernel
theorem dX7_countWhere_2 : decode cX7_countWhere 2 = .ok (.iconst 0, 1) := by decide +kernel
theorem dX7_countWhere_3 : decode cX7_countWhere 3 = .ok (.istore_n 3, 1) := by decide +kernel
theorem dX7_countWhere_4 : decode cX7_countWhere 4 = .ok (.iload_n 3, 1) := by decide +kernel
theorem dX7_countWhere_5 : decode cX7_countWhere 5 = .ok (.aload_n 0, 1) := by decide +kernel
theorem dX7_countWhere_6 : decode cX7_countWhere 6 = .ok (.getfield 15, 3) := by decide +kernel
theorem dX7_countWhere_9 : decode cX7_countWhere 9 = .ok (.if_icmp .ge 27, 3) := by decide +kernel
theorem dX7_countWhere_12 : decode cX7_countWhere 12 = .ok (.iload_n 2, 1) := by decide +kernel
theorem dX7_countWhere_13 : decode cX7_countWhere 13 = .ok (.aload_n 0, 1) := by decide +kernel
theorem dX7_countWhere_14 : decode cX7_countWhere 14 = .ok (.getfield 9, 3) := by decide +kernel
theorem dX7_countWhere_17 : decode cX7_countWhere 17 = .ok (.iload_n 3, 1) := by decide +kernel
theorem dX7_countWhere_18 : decode cX7_countWhere 18 = .ok (.laload, 1) := by decide +kernel
theorem dX7_countWhere_19 : decode cX7_countWhere 19 = .ok (.iload_n 1, 1) := by decide +kernel
theorem dX7_countWhere_20 : decode cX7_countWhere 20 = .ok (.iload_n 3, 1) := by decide +kernel
theorem dX7_countWhere_21 : decode cX7_countWhere 21 = .ok (.invokestatic 47, 3) := by decide +kernel
theorem dX7_countWhere_24 : decode cX7_countWhere 24 = .ok (.land, 1) := by decide +kernel
theorem dX7_countWhere_25 : decode cX7_countWhere 25 = .ok (.invokestatic 51, 3) := by decide +kernel
theorem dX7_countWhere_28 : decode cX7_countWhere 28 = .ok (.iadd, 1) := by decide +kernel
theorem dX7_countWhere_29 : decode cX7_countWhere 29 = .ok (.istore_n 2, 1) := by decide +kernel
theorem dX7_countWhere_30 : decode cX7_countWhere 30 = .ok (.iinc 3 1, 3) := by decide +kernel
theorem dX7_countWhere_33 : decode cX7_countWhere 33 = .ok (.goto (-29), 3) := by decide +kernel
theorem dX7_countWhere_36 : decode cX7_countWhere 36 = .ok (.iload_n 2, 1) := by decide +kernel
theorem dX7_countWhere_37 : decode cX7_countWhere 37 = .ok (.ireturn, 1) := by decide +kernel
theorem dX7_soAt_0 : decode cX7_soAt 0 = .ok (.iload_n 0, 1) := by decide +kernel
theorem dX7_soAt_1 : decode cX7_soAt 1 = .ok (.ifCond .lt 17, 3) := by decide +kernel
theorem dX7_soAt_4 : decode cX7_soAt 4 = .ok (.iload_n 0, 1) := by decide +kernel
theorem dX7_soAt_5 : decode cX7_soAt 5 = .ok (.getstatic 57, 3) := by decide +kernel
theorem dX7_soAt_8 : decode cX7_soAt 8 = .ok (.arraylength, 1) := by decide +kernel
theorem dX7_soAt_9 : decode cX7_soAt 9 = .ok (.if_icmp .ge 9, 3) := by decide +kernel
theorem dX7_soAt_12 : decode cX7_soAt 12 = .ok (.getstatic 57, 3) := by decide +kernel
theorem dX7_soAt_15 : decode cX7_soAt 15 = .ok (.iload_n 0, 1) := by decide +kernel
theorem dX7_soAt_16 : decode cX7_soAt 16 = .ok (.laload, 1) := by decide +kernel
theorem dX7_soAt_17 : decode cX7_soAt 17 = .ok (.lreturn, 1) := by decide +kernel
theorem dX7_soAt_18 : decode cX7_soAt 18 = .ok (.iload_n 1, 1) := by decide +kernel
theorem dX7_soAt_19 : decode cX7_soAt 19 = .ok (.iload_n 0, 1) := by decide +kernel
theorem dX7_soAt_20 : decode cX7_soAt 20 = .ok (.getstatic 57, 3) := by decide +kernel
theorem dX7_soAt_23 : decode cX7_soAt 23 = .ok (.arraylength, 1) := by decide +kernel
theorem dX7_soAt_24 : decode cX7_soAt 24 = .ok (.isub, 1) := by decide +kernel
theorem dX7_soAt_25 : decode cX7_soAt 25 = .ok (.ishr, 1) := by decide +kernel
theorem dX7_soAt_26 : decode cX7_soAt 26 = .ok (.iconst 1, 1) := by decide +kernel
theorem dX7_soAt_27 : decode cX7_soAt 27 = .ok (.iand, 1) := by decide +kernel
theorem dX7_soAt_28 : decode cX7_soAt 28 = .ok (.ifCond .ne 7, 3) := by decide +kernel
theorem dX7_soAt_31 : decode cX7_soAt 31 = .ok (.lconst 0, 1) := by decide +kernel
theorem dX7_soAt_32 : decode cX7_soAt 32 = .ok (.goto 6, 3) := by decide +kernel
theorem dX7_soAt_35 : decode cX7_soAt 35 = .ok (.ldc2_w 35, 3) := by decide +kernel
theorem dX7_soAt_38 : decode cX7_soAt 38 = .ok (.lreturn, 1) := by decide +kernel
theorem dX7_count_0 : decode cX7_count 0 = .ok (.iconst 0, 1) := by decide +kernel
theorem dX7_count_1 : decode cX7_count 1 = .ok (.istore_n 1, 1) := by decide +kernel
theorem dX7_count_2 : decode cX7_count 2 = .ok (.iconst 0, 1) := by decide +kernel
theorem dX7_count_3 : decode cX7_count 3 = .ok (.istore_n 2, 1) := by decide +kernel
theorem dX7_count_4 : decode cX7_count 4 = .ok (.iload_n 2, 1) := by decide +kernel
theorem dX7_count_5 : decode cX7_count 5 = .ok (.aload_n 0, 1) := by decide +kernel
theorem dX7_count_6 : decode cX7_count 6 = .ok (.getfield 15, 3) := by decide +kernel
theorem dX7_count_9 : decode cX7_count 9 = .ok (.if_icmp .ge 21, 3) := by decide +kernel
theorem dX7_count_12 : decode cX7_count 12 = .ok (.iload_n 1, 1) := by decide +kernel
theorem dX7_count_13 : decode cX7_count 13 = .ok (.aload_n 0, 1) := by decide +kernel
theorem dX7_count_14 : decode cX7_count 14 = .ok (.getfield 9, 3) := by decide +kernel
theorem dX7_count_17 : decode cX7_count 17 = .ok (.iload_n 2, 1) := by decide +kernel
theorem dX7_count_18 : decode cX7_count 18 = .ok (.laload, 1) := by decide +kernel
theorem dX7_count_19 : decode cX7_count 19 = .ok (.invokestatic 51, 3) := by decide +kernel
theorem dX7_count_22 : decode cX7_count 22 = .ok (.iadd, 1) := by decide +kernel
theorem dX7_count_23 : decode cX7_count 23 = .ok (.istore_n 1, 1) := by decide +kernel
theorem dX7_count_24 : decode cX7_count 24 = .ok (.iinc 2 1, 3) := by decide +kernel
theorem dX7_count_27 : decode cX7_count 27 = .ok (.goto (-23), 3) := by decide +kernel
theorem dX7_count_30 : decode cX7_count 30 = .ok (.iload_n 1, 1) := by decide +kernel
theorem dX7_count_31 : decode cX7_count 31 = .ok (.ireturn, 1) := by decide +kernel
theorem dX7_isNothing_0 : decode cX7_isNothing 0 = .ok (.iconst 0, 1) := by decide +kernel
theorem dX7_isNothing_1 : decode cX7_isNothing 1 = .ok (.istore_n 1, 1) := by decide +kernel
theorem dX7_isNothing_2 : decode cX7_isNothing 2 = .ok (.iload_n 1, 1) := by decide +kernel
theorem dX7_isNothing_3 : decode cX7_isNothing 3 = .ok (.aload_n 0, 1) := by decide +kernel
theorem dX7_isNothing_4 : decode cX7_isNothing 4 = .ok (.getfield 15, 3) := by decide +kernel
theorem dX7_isNothing_7 : decode cX7_isNothing 7 = .ok (.if_icmp .ge 22, 3) := by decide +kernel
theorem dX7_isNothing_10 : decode cX7_isNothing 10 = .ok (.aload_n 0, 1) := by decide +kernel
theorem dX7_isNothing_11 : decode cX7_isNothing 11 = .ok (.getfield 9, 3) := by decide +kernel
theorem dX7_isNothing_14 : decode cX7_isNothing 14 = .ok (.iload_n 1, 1) := by decide +kernel
theorem dX7_isNothing_15 : decode cX7_isNothing 15 = .ok (.laload, 1) := by decide +kernel
theorem dX7_isNothing_16 : decode cX7_isNothing 16 = .ok (.lconst 0, 1) := by decide +kernel
theorem dX7_isNothing_17 : decode cX7_isNothing 17 = .ok (.lcmp, 1) := by decide +kernel
theorem dX7_isNothing_18 : decode cX7_isNothing 18 = .ok (.ifCond .eq 5, 3) := by decide +kernel
theorem dX7_isNothing_21 : decode cX7_isNothing 21 = .ok (.iconst 0, 1) := by decide +kernel
theorem dX7_isNothing_22 : decode cX7_isNothing 22 = .ok (.ireturn, 1) := by decide +kernel
theorem dX7_isNothing_23 : decode cX7_isNothing 23 = .ok (.iinc 1 1, 3) := by decide +kernel
theorem dX7_isNothing_26 : decode cX7_isNothing 26 = .ok (.goto (-24), 3) := by decide +kernel
theorem dX7_isNothing_29 : decode cX7_isNothing 29 = .ok (.iconst 1, 1) := by decide +kernel
theorem dX7_isNothing_30 : decode cX7_isNothing 30 = .ok (.ireturn, 1) := by decide +kernel
theorem dX7_nth_0 : decode cX7_nth 0 = .ok (.iload_n 1, 1) := by decide +kernel
theorem dX7_nth_1 : decode cX7_nth 1 = .ok (.istore_n 2, 1) := by decide +kernel
theorem dX7_nth_2 : decode cX7_nth 2 = .ok (.iconst 0, 1) := by decide +kernel
theorem dX7_nth_3 : decode cX7_nth 3 = .ok (.istore_n 3, 1) := by decide +kernel
theorem dX7_nth_4 : decode cX7_nth 4 = .ok (.iload_n 3, 1) := by decide +kernel
theorem dX7_nth_5 : decode cX7_nth 5 = .ok (.aload_n 0, 1) := by decide +kernel
theorem dX7_nth_6 : decode cX7_nth 6 = .ok (.invokevirtual 43, 3) := by decide +kernel
theorem dX7_nth_9 : decode cX7_nth 9 = .ok (.if_icmp .ge 30, 3) := by decide +kernel
theorem dX7_nth_12 : decode cX7_nth 12 = .ok (.iload_n 2, 1) := by decide +kernel
theorem dX7_nth_13 : decode cX7_nth 13 = .ok (.ifCond .lt 26, 3) := by decide +kernel
theorem dX7_nth_16 : decode cX7_nth 16 = .ok (.aload_n 0, 1) := by decide +kernel
theorem dX7_nth_17 : decode cX7_nth 17 = .ok (.iload_n 3, 1) := by decide +kernel
theorem dX7_nth_18 : decode cX7_nth 18 = .ok (.invokevirtual 60, 3) := by decide +kernel
theorem dX7_nth_21 : decode cX7_nth 21 = .ok (.ifCond .eq 12, 3) := by decide +kernel
theorem dX7_nth_24 : decode cX7_nth 24 = .ok (.iload_n 2, 1) := by decide +kernel
theorem dX7_nth_25 : decode cX7_nth 25 = .ok (.ifCond .ne 5, 3) := by decide +kernel
theorem dX7_nth_28 : decode cX7_nth 28 = .ok (.iload_n 3, 1) := by decide +kernel
theorem dX7_nth_29 : decode cX7_nth 29 = .ok (.ireturn, 1) := by decide +kernel
theorem dX7_nth_30 : decode cX7_nth 30 = .ok (.iinc 2 (-1), 3) := by decide +kernel
theorem dX7_nth_33 : decode cX7_nth 33 = .ok (.iinc 3 1, 3) := by decide +kernel
theorem dX7_nth_36 : decode cX7_nth 36 = .ok (.goto (-32), 3) := by decide +kernel
theorem dX7_nth_39 : decode cX7_nth 39 = .ok (.iconst (-1), 1) := by decide +kernel
theorem dX7_nth_40 : decode cX7_nth 40 = .ok (.ireturn, 1) := by decide +kernel
theorem dX8_init_0 : decode cX8_init 0 = .ok (.aload_n 0, 1) := by decide +kernel
theorem dX8_init_1 : decode cX8_init 1 = .ok (.invokespecial 1, 3) := by decide +kernel
theorem dX8_init_4 : decode cX8_init 4 = .ok (.aload_n 0, 1) := by decide +kernel
theorem dX8_init_5 : decode cX8_init 5 = .ok (.new 7, 3) := by decide +kernel
theorem dX8_init_8 : decode cX8_init 8 = .ok (.dup, 1) := by decide +kernel
theorem dX8_init_9 : decode cX8_init 9 = .ok (.invokespecial 9, 3) := by decide +kernel
theorem dX8_init_12 : decode cX8_init 12 = .ok (.putfield 10, 3) := by decide +kernel
theorem dX8_init_15 : decode cX8_init 15 = .ok (.aload_n 0, 1) := by decide +kernel
theorem dX8_init_16 : decode cX8_init 16 = .ok (.aload_n 0, 1) := by decide +kernel
theorem dX8_init_17 : decode cX8_init 17 = .ok (.getfield 10, 3) := by decide +kernel
theorem dX8_init_20 : decode cX8_init 20 = .ok (.getfield 16, 3) := by decide +kernel
theorem dX8_init_23 : decode cX8_init 23 = .ok (.putfield 20, 3) := by decide +kernel
theorem dX8_init_26 : decode cX8_init 26 = .ok (.aload_n 0, 1) := by decide +kernel
theorem dX8_init_27 : decode cX8_init 27 = .ok (.new 21, 3) := by decide +kernel
theorem dX8_init_30 : decode cX8_init 30 = .ok (.dup, 1) := by decide +kernel
theorem dX8_init_31 : decode cX8_init 31 = .ok (.invokespecial 23, 3) := by decide +kernel
theorem dX8_init_34 : decode cX8_init 34 = .ok (.putfield 24, 3) := by decide +kernel
theorem dX8_init_37 : decode cX8_init 37 = .ok (.aload_n 0, 1) := by decide +kernel
theorem dX8_init_38 : decode cX8_init 38 = .ok (.iconst 3, 1) := by decide +kernel
theorem dX8_init_39 : decode cX8_init 39 = .ok (.anewarray 28, 3) := by decide +kernel
theorem dX8_init_42 : decode cX8_init 42 = .ok (.putfield 30, 3) := by decide +kernel
theorem dX8_init_45 : decode cX8_init 45 = .ok (.aload_n 0, 1) := by decide +kernel
theorem dX8_init_46 : decode cX8_init 46 = .ok (.iconst 3, 1) := by decide +kernel
theorem dX8_init_47 : decode cX8_init 47 = .ok (.newarray .boolean, 2) := by decide +kernel
theorem dX8_init_49 : decode cX8_init 49 = .ok (.putfield 34, 3) := by decide +kernel
theorem dX8_init_52 : decode cX8_init 52 = .ok (.iconst 0, 1) := by decide +kernel
theorem dX8_init_53 : decode cX8_init 53 = .ok (.istore_n 1, 1) := by decide +kernel
theorem dX8_init_54 : decode cX8_init 54 = .ok (.iload_n 1, 1) := by decide +kernel
theorem dX8_init_55 : decode cX8_init 55 = .ok (.iconst 3, 1) := by decide +kernel
theorem dX8_init_56 : decode cX8_init 56 = .ok (.if_icmp .ge 22, 3) := by decide +kernel
theorem dX8_init_59 : decode cX8_init 59 = .ok (.aload_n 0, 1) := by decide +kernel
theorem dX8_init_60 : decode cX8_init 60 = .ok (.getfield 30, 3) := by decide +kernel
theorem dX8_init_63 : decode cX8_init 63 = .ok (.iload_n 1, 1) := by decide +kernel
theorem dX8_init_64 : decode cX8_init 64 = .ok (.new 28, 3) := by decide +kernel
theorem dX8_init_67 : decode cX8_init 67 = .ok (.dup, 1) := by decide +kernel
theorem dX8_init_68 : decode cX8_init 68 = .ok (.invokespecial 38, 3) := by decide +kernel
theorem dX8_init_71 : decode cX8_init 71 = .ok (.aastore, 1) := by decide +kernel
theorem dX8_init_72 : decode cX8_init 72 = .ok (.iinc 1 1, 3) := by decide +kernel
theorem dX8_init_75 : decode cX8_init 75 = .ok (.goto (-21), 3) := by decide +kernel
theorem dX8_init_78 : decode cX8_init 78 = .ok (.return_, 1) := by decide +kernel
theorem dX8_size_0 : decode cX8_size 0 = .ok (.aload_n 0, 1) := by decide +kernel
theorem dX8_size_1 : decode cX8_size 1 = .ok (.getfield 20, 3) := by decide +kernel
theorem dX8_size_4 : decode cX8_size 4 = .ok (.getfield 39, 3) := by decide +kernel
theorem dX8_size_7 : decode cX8_size 7 = .ok (.iload_n 1, 1) := by decide +kernel
theorem dX8_size_8 : decode cX8_size 8 = .ok (.iload_n 2, 1) := by decide +kernel
theorem dX8_size_9 : decode cX8_size 9 = .ok (.invokevirtual 43, 3) := by decide +kernel
theorem dX8_size_12 : decode cX8_size 12 = .ok (.ifCond .ne 5, 3) := by decide +kernel
theorem dX8_size_15 : decode cX8_size 15 = .ok (.iconst 0, 1) := by decide +kernel
theorem dX8_size_16 : decode cX8_size 16 = .ok (.ireturn, 1) := by decide +kernel
theorem dX8_size_17 : decode cX8_size 17 = .ok (.aload_n 0, 1) := by decide +kernel
theorem dX8_size_18 : decode cX8_size 18 = .ok (.getfield 20, 3) := by decide +kernel
theorem dX8_size_21 : decode cX8_size 21 = .ok (.invokevirtual 49, 3) := by decide +kernel
theorem dX8_size_24 : decode cX8_size 24 = .ok (.aload_n 0, 1) := by decide +kernel
theorem dX8_size_25 : decode cX8_size 25 = .ok (.getfield 10, 3) := by decide +kernel
theorem dX8_size_28 : decode cX8_size 28 = .ok (.invokevirtual 52, 3) := by decide +kernel
theorem dX8_size_31 : decode cX8_size 31 = .ok (.iconst 1, 1) := by decide +kernel
theorem dX8_size_32 : decode cX8_size 32 = .ok (.ireturn, 1) := by decide +kernel
theorem dX8_relation_0 : decode cX8_relation 0 = .ok (.aload_n 0, 1) := by decide +kernel
theorem dX8_relation_1 : decode cX8_relation 1 = .ok (.getfield 20, 3) := by decide +kernel
theorem dX8_relation_4 : decode cX8_relation 4 = .ok (.getfield 39, 3) := by decide +kernel
theorem dX8_relation_7 : decode cX8_relation 7 = .ok (.iload_n 1, 1) := by decide +kernel
theorem dX8_relation_8 : decode cX8_relation 8 = .ok (.iload_n 2, 1) := by decide +kernel
theorem dX8_relation_9 : decode cX8_relation 9 = .ok (.invokevirtual 55, 3) := by decide +kernel
theorem dX8_relation_12 : decode cX8_relation 12 = .ok (.istore_n 3, 1) := by decide +kernel
theorem dX8_relation_13 : decode cX8_relation 13 = .ok (.iload_n 3, 1) := by decide +kernel
theorem dX8_relation_14 : decode cX8_relation 14 = .ok (.iconst (-1), 1) := by decide +kernel
theorem dX8_relation_15 : decode cX8_relation 15 = .ok (.if_icmp .eq 17, 3) := by decide +kernel
theorem dX8_relation_18 : decode cX8_relation 18 = .ok (.aload_n 0, 1) := by decide +kernel
theorem dX8_relation_19 : decode cX8_relation 19 = .ok (.getfield 20, 3) := by decide +kernel
theorem dX8_relation_22 : decode cX8_relation 22 = .ok (.invokevirtual 49, 3) := by decide +kernel
theorem dX8_relation_25 : decode cX8_relation 25 = .ok (.aload_n 0, 1) := by decide +kernel
theorem dX8_relation_26 : decode cX8_relation 26 = .ok (.getfield 10, 3) := by decide +kernel
theorem dX8_relation_29 : decode cX8_relation 29 = .ok (.invokevirtual 52, 3) := by decide +kernel
theorem dX8_relation_32 : decode cX8_relation 32 = .ok (.iload_n 3, 1) := by decide +kernel
theorem dX8_relation_33 : decode cX8_relation 33 = .ok (.ireturn, 1) := by decide +kernel
theorem dX8_facts_0 : decode cX8_facts 0 = .ok (.aload_n 0, 1) := by decide +kernel
theorem dX8_facts_1 : decode cX8_facts 1 = .ok (.getfield 20, 3) := by decide +kernel
theorem dX8_facts_4 : decode cX8_facts 4 = .ok (.getfield 39, 3) := by decide +kernel
theorem dX8_facts_7 : decode cX8_facts 7 = .ok (.getfield 59, 3) := by decide +kernel
theorem dX8_facts_10 : decode cX8_facts 10 = .ok (.ireturn, 1) := by decide +kernel
theorem dX8_tell_0 : decode cX8_tell 0 = .ok (.aload_n 0, 1) := by decide +kernel
theorem dX8_tell_1 : decode cX8_tell 1 = .ok (.getfield 20, 3) := by decide +kernel
theorem dX8_tell_4 : decode cX8_tell 4 = .ok (.getfield 39, 3) := by decide +kernel
theorem dX8_tell_7 : decode cX8_tell 7 = .ok (.iload_n 1, 1) := by decide +kernel
theorem dX8_tell_8 : decode cX8_tell 8 = .ok (.iload_n 2, 1) := by decide +kernel
theorem dX8_tell_9 : decode cX8_tell 9 = .ok (.iload_n 3, 1) := by decide +kernel
theorem dX8_tell_10 : decode cX8_tell 10 = .ok (.invokevirtual 63, 3) := by decide +kernel
theorem dX8_tell_13 : decode cX8_tell 13 = .ok (.istore 5, 2) := by decide +kernel
theorem dX8_tell_15 : decode cX8_tell 15 = .ok (.iload 5, 2) := by decide +kernel
theorem dX8_tell_17 : decode cX8_tell 17 = .ok (.iconst (-1), 1) := by decide +kernel
theorem dX8_tell_18 : decode cX8_tell 18 = .ok (.if_icmp .eq 17, 3) := by decide +kernel
theorem dX8_tell_21 : decode cX8_tell 21 = .ok (.aload_n 0, 1) := by decide +kernel
theorem dX8_tell_22 : decode cX8_tell 22 = .ok (.getfield 20, 3) := by decide +kernel
theorem dX8_tell_25 : decode cX8_tell 25 = .ok (.iload 5, 2) := by decide +kernel
theorem dX8_tell_27 : decode cX8_tell 27 = .ok (.invokevirtual 67, 3) := by decide +kernel
theorem dX8_tell_30 : decode cX8_tell 30 = .ok (.iload 4, 2) := by decide +kernel
theorem dX8_tell_32 : decode cX8_tell 32 = .ok (.if_icmp .ne 5, 3) := by decide +kernel
theorem dX8_tell_35 : decode cX8_tell 35 = .ok (.iconst 0, 1) := by decide +kernel
theorem dX8_tell_36 : decode cX8_tell 36 = .ok (.ireturn, 1) := by decide +kernel
theorem dX8_tell_37 : decode cX8_tell 37 = .ok (.aload_n 0, 1) := by decide +kernel
theorem dX8_tell_38 : decode cX8_tell 38 = .ok (.getfield 20, 3) := by decide +kernel
theorem dX8_tell_41 : decode cX8_tell 41 = .ok (.dup, 1) := by decide +kernel
theorem dX8_tell_42 : decode cX8_tell 42 = .ok (.getfield 71, 3) := by decide +kernel
theorem dX8_tell_45 : decode cX8_tell 45 = .ok (.lconst 1, 1) := by decide +kernel
theorem dX8_tell_46 : decode cX8_tell 46 = .ok (.aload_n 0, 1) := by decide +kernel
theorem dX8_tell_47 : decode cX8_tell 47 = .ok (.getfield 20, 3) := by decide +kernel
theorem dX8_tell_50 : decode cX8_tell 50 = .ok (.getfield 39, 3) := by decide +kernel
theorem dX8_tell_53 : decode cX8_tell 53 = .ok (.iload 5, 2) := by decide +kernel
theorem dX8_tell_55 : decode cX8_tell 55 = .ok (.invokevirtual 75, 3) := by decide +kernel
theorem dX8_tell_58 : decode cX8_tell 58 = .ok (.lshl, 1) := by decide +kernel
theorem dX8_tell_59 : decode cX8_tell 59 = .ok (.lxor, 1) := by decide +kernel
theorem dX8_tell_60 : decode cX8_tell 60 = .ok (.putfield 71, 3) := by decide +kernel
theorem dX8_tell_63 : decode cX8_tell 63 = .ok (.iconst 1, 1) := by decide +kernel
theorem dX8_tell_64 : decode cX8_tell 64 = .ok (.ireturn, 1) := by decide +kernel
theorem dX8_fact_0 : decode cX8_fact 0 = .ok (.aload_n 0, 1) := by decide +kernel
theorem dX8_fact_1 : decode cX8_fact 1 = .ok (.getfield 20, 3) := by decide +kernel
theorem dX8_fact_4 : decode cX8_fact 4 = .ok (.getfield 39, 3) := by decide +kernel
theorem dX8_fact_7 : decode cX8_fact 7 = .ok (.iload_n 1, 1) := by decide +kernel
theorem dX8_fact_8 : decode cX8_fact 8 = .ok (.iload_n 2, 1) := by decide +kernel
theorem dX8_fact_9 : decode cX8_fact 9 = .ok (.iload_n 3, 1) := by decide +kernel
theorem dX8_fact_10 : decode cX8_fact 10 = .ok (.invokevirtual 63, 3) := by decide +kernel
theorem dX8_fact_13 : decode cX8_fact 13 = .ok (.istore 4, 2) := by decide +kernel
theorem dX8_fact_15 : decode cX8_fact 15 = .ok (.iload 4, 2) := by decide +kernel
theorem dX8_fact_17 : decode cX8_fact 17 = .ok (.iconst (-1), 1) := by decide +kernel
theorem dX8_fact_18 : decode cX8_fact 18 = .ok (.if_icmp .ne 5, 3) := by decide +kernel
theorem dX8_fact_21 : decode cX8_fact 21 = .ok (.iconst (-1), 1) := by decide +kernel
theorem dX8_fact_22 : decode cX8_fact 22 = .ok (.ireturn, 1) := by decide +kernel
theorem dX8_fact_23 : decode cX8_fact 23 = .ok (.aload_n 0, 1) := by decide +kernel
theorem dX8_fact_24 : decode cX8_fact 24 = .ok (.getfield 20, 3) := by decide +kernel
theorem dX8_fact_27 : decode cX8_fact 27 = .ok (.iload 4, 2) := by decide +kernel
theorem dX8_fact_29 : decode cX8_fact 29 = .ok (.invokevirtual 67, 3) := by decide +kernel
theorem dX8_fact_32 : decode cX8_fact 32 = .ok (.ifCond .eq 7, 3) := by decide +kernel
theorem dX8_fact_35 : decode cX8_fact 35 = .ok (.iconst 1, 1) := by decide +kernel
theorem dX8_fact_36 : decode cX8_fact 36 = .ok (.goto 4, 3) := by decide +kernel
theorem dX8_fact_39 : decode cX8_fact 39 = .ok (.iconst 0, 1) := by decide +kernel
theorem dX8_fact_40 : decode cX8_fact 40 = .ok (.ireturn, 1) := by decide +kernel
theorem dX8_known_0 : decode cX8_known 0 = .ok (.aload_n 0, 1) := by decide +kernel
theorem dX8_known_1 : decode cX8_known 1 = .ok (.getfield 20, 3) := by decide +kernel
theorem dX8_known_4 : decode cX8_known 4 = .ok (.iload_n 1, 1) := by decide +kernel
theorem dX8_known_5 : decode cX8_known 5 = .ok (.iload_n 2, 1) := by decide +kernel
theorem dX8_known_6 : decode cX8_known 6 = .ok (.iload_n 3, 1) := by decide +kernel
theorem dX8_known_7 : decode cX8_known 7 = .ok (.iload 4, 2) := by decide +kernel
theorem dX8_known_9 : decode cX8_known 9 = .ok (.invokevirtual 79, 3) := by decide +kernel
theorem dX8_known_12 : decode cX8_known 12 = .ok (.ireturn, 1) := by decide +kernel
theorem dX8_keep_0 : decode cX8_keep 0 = .ok (.iload_n 1, 1) := by decide +kernel
theorem dX8_keep_1 : decode cX8_keep 1 = .ok (.ifCond .lt 8, 3) := by decide +kernel
theorem dX8_keep_4 : decode cX8_keep 4 = .ok (.iload_n 1, 1) := by decide +kernel
theorem dX8_keep_5 : decode cX8_keep 5 = .ok (.iconst 4, 1) := by decide +kernel
theorem dX8_keep_6 : decode cX8_keep 6 = .ok (.if_icmp .lt 5, 3) := by decide +kernel
theorem dX8_keep_9 : decode cX8_keep 9 = .ok (.iconst 0, 1) := by decide +kernel
theorem dX8_keep_10 : decode cX8_keep 10 = .ok (.ireturn, 1) := by decide +kernel
theorem dX8_keep_11 : decode cX8_keep 11 = .ok (.aload_n 0, 1) := by decide +kernel
theorem dX8_keep_12 : decode cX8_keep 12 = .ok (.getfield 20, 3) := by decide +kernel
theorem dX8_keep_15 : decode cX8_keep 15 = .ok (.getfield 83, 3) := by decide +kernel
theorem dX8_keep_18 : decode cX8_keep 18 = .ok (.iload_n 1, 1) := by decide +kernel
theorem dX8_keep_19 : decode cX8_keep 19 = .ok (.aload_n 0, 1) := by decide +kernel
theorem dX8_keep_20 : decode cX8_keep 20 = .ok (.getfield 20, 3) := by decide +kernel
theorem dX8_keep_23 : decode cX8_keep 23 = .ok (.getfield 71, 3) := by decide +kernel
theorem dX8_keep_26 : decode cX8_keep 26 = .ok (.lastore, 1) := by decide +kernel
theorem dX8_keep_27 : decode cX8_keep 27 = .ok (.aload_n 0, 1) := by decide +kernel
theorem dX8_keep_28 : decode cX8_keep 28 = .ok (.getfield 20, 3) := by decide +kernel
theorem dX8_keep_31 : decode cX8_keep 31 = .ok (.getfield 87, 3) := by decide +kernel
theorem dX8_keep_34 : decode cX8_keep 34 = .ok (.iload_n 1, 1) := by decide +kernel
theorem dX8_keep_35 : decode cX8_keep 35 = .ok (.iconst 1, 1) := by decide +kernel
theorem dX8_keep_36 : decode cX8_keep 36 = .ok (.bastore, 1) := by decide +kernel
theorem dX8_keep_37 : decode cX8_keep 37 = .ok (.iconst 1, 1) := by decide +kernel
theorem dX8_keep_38 : decode cX8_keep 38 = .ok (.ireturn, 1) := by decide +kernel
theorem dX8_apart_0 : decode cX8_apart 0 = .ok (.iload_n 1, 1) := by decide +kernel
theorem dX8_apart_1 : decode cX8_apart 1 = .ok (.ifCond .lt 20, 3) := by decide +kernel
theorem dX8_apart_4 : decode cX8_apart 4 = .ok (.iload_n 1, 1) := by decide +kernel
theorem dX8_apart_5 : decode cX8_apart 5 = .ok (.iconst 4, 1) := by decide +kernel
theorem dX8_apart_6 : decode cX8_apart 6 = .ok (.if_icmp .ge 15, 3) := by decide +kernel
theorem dX8_apart_9 : decode cX8_apart 9 = .ok (.aload_n 0, 1) := by decide +kernel
theorem dX8_apart_10 : decode cX8_apart 10 = .ok (.getfield 20, 3) := by decide +kernel
theorem dX8_apart_13 : decode cX8_apart 13 = .ok (.getfield 87, 3) := by decide +kernel
theorem dX8_apart_16 : decode cX8_apart 16 = .ok (.iload_n 1, 1) := by decide +kernel
theorem dX8_apart_17 : decode cX8_apart 17 = .ok (.baload, 1) := by decide +kernel
theorem dX8_apart_18 : decode cX8_apart 18 = .ok (.ifCond .ne 5, 3) := by decide +kernel
theorem dX8_apart_21 : decode cX8_apart 21 = .ok (.iconst (-1), 1) := by decide +kernel
theorem dX8_apart_22 : decode cX8_apart 22 = .ok (.ireturn, 1) := by decide +kernel
theorem dX8_apart_23 : decode cX8_apart 23 = .ok (.aload_n 0, 1) := by decide +kernel
theorem dX8_apart_24 : decode cX8_apart 24 = .ok (.getfield 10, 3) := by decide +kernel
theorem dX8_apart_27 : decode cX8_apart 27 = .ok (.aload_n 0, 1) := by decide +kernel
theorem dX8_apart_28 : decode cX8_apart 28 = .ok (.getfield 20, 3) := by decide +kernel
theorem dX8_apart_31 : decode cX8_apart 31 = .ok (.getfield 83, 3) := by decide +kernel
theorem dX8_apart_34 : decode cX8_apart 34 = .ok (.iload_n 1, 1) := by decide +kernel
theorem dX8_apart_35 : decode cX8_apart 35 = .ok (.laload, 1) := by decide +kernel
theorem dX8_apart_36 : decode cX8_apart 36 = .ok (.invokevirtual 90, 3) := by decide +kernel
theorem dX8_apart_39 : decode cX8_apart 39 = .ok (.ireturn, 1) := by decide +kernel
theorem dX8_feed_0 : decode cX8_feed 0 = .ok (.aload_n 0, 1) := by decide +kernel
theorem dX8_feed_1 : decode cX8_feed 1 = .ok (.getfield 20, 3) := by decide +kernel
theorem dX8_feed_4 : decode cX8_feed 4 = .ok (.getfield 94, 3) := by decide +kernel
theorem dX8_feed_7 : decode cX8_feed 7 = .ok (.bipush 20, 2) := by decide +kernel
theorem dX8_feed_9 : decode cX8_feed 9 = .ok (.iadd, 1) := by decide +kernel
theorem dX8_feed_10 : decode cX8_feed 10 = .ok (.sipush 400, 3) := by decide +kernel
theorem dX8_feed_13 : decode cX8_feed 13 = .ok (.if_icmp .le 5, 3) := by decide +kernel
theorem dX8_feed_16 : decode cX8_feed 16 = .ok (.iconst (-1), 1) := by decide +kernel
theorem dX8_feed_17 : decode cX8_feed 17 = .ok (.ireturn, 1) := by decide +kernel
theorem dX8_feed_18 : decode cX8_feed 18 = .ok (.aload_n 0, 1) := by decide +kernel
theorem dX8_feed_19 : decode cX8_feed 19 = .ok (.getfield 20, 3) := by decide +kernel
theorem dX8_feed_22 : decode cX8_feed 22 = .ok (.iload_n 1, 1) := by decide +kernel
theorem dX8_feed_23 : decode cX8_feed 23 = .ok (.invokevirtual 97, 3) := by decide +kernel
theorem dX8_feed_26 : decode cX8_feed 26 = .ok (.aload_n 0, 1) := by decide +kernel
theorem dX8_feed_27 : decode cX8_feed 27 = .ok (.getfield 20, 3) := by decide +kernel
theorem dX8_feed_30 : decode cX8_feed 30 = .ok (.iload_n 2, 1) := by decide +kernel
theorem dX8_feed_31 : decode cX8_feed 31 = .ok (.invokevirtual 97, 3) := by decide +kernel
theorem dX8_feed_34 : decode cX8_feed 34 = .ok (.aload_n 0, 1) := by decide +kernel
theorem dX8_feed_35 : decode cX8_feed 35 = .ok (.getfield 20, 3) := by decide +kernel
theorem dX8_feed_38 : decode cX8_feed 38 = .ok (.iload_n 3, 1) := by decide +kernel
theorem dX8_feed_39 : decode cX8_feed 39 = .ok (.invokevirtual 97, 3) := by decide +kernel
theorem dX8_feed_42 : decode cX8_feed 42 = .ok (.aload_n 0, 1) := by decide +kernel
theorem dX8_feed_43 : decode cX8_feed 43 = .ok (.getfield 20, 3) := by decide +kernel
theorem dX8_feed_46 : decode cX8_feed 46 = .ok (.iload 4, 2) := by decide +kernel
theorem dX8_feed_48 : decode cX8_feed 48 = .ok (.invokevirtual 97, 3) := by decide +kernel
theorem dX8_feed_51 : decode cX8_feed 51 = .ok (.aload_n 0, 1) := by decide +kernel
theorem dX8_feed_52 : decode cX8_feed 52 = .ok (.getfield 20, 3) := by decide +kernel
theorem dX8_feed_55 : decode cX8_feed 55 = .ok (.iload 5, 2) := by decide +kernel
theorem dX8_feed_57 : decode cX8_feed 57 = .ok (.invokevirtual 97, 3) := by decide +kernel
theorem dX8_feed_60 : decode cX8_feed 60 = .ok (.aload_n 0, 1) := by decide +kernel
theorem dX8_feed_61 : decode cX8_feed 61 = .ok (.getfield 20, 3) := by decide +kernel
theorem dX8_feed_64 : decode cX8_feed 64 = .ok (.getfield 94, 3) := by decide +kernel
theorem dX8_feed_67 : decode cX8_feed 67 = .ok (.ireturn, 1) := by decide +kernel
theorem dX8_end_0 : decode cX8_end 0 = .ok (.iload_n 1, 1) := by decide +kernel
theorem dX8_end_1 : decode cX8_end 1 = .ok (.ifCond .lt 14, 3) := by decide +kernel
theorem dX8_end_4 : decode cX8_end 4 = .ok (.iload_n 1, 1) := by decide +kernel
theorem dX8_end_5 : decode cX8_end 5 = .ok (.aload_n 0, 1) := by decide +kernel
theorem dX8_end_6 : decode cX8_end 6 = .ok (.getfield 20, 3) := by decide +kernel
theorem dX8_end_9 : decode cX8_end 9 = .ok (.getfield 94, 3) := by decide +kernel
theorem dX8_end_12 : decode cX8_end 12 = .ok (.if_icmp .le 5, 3) := by decide +kernel
theorem dX8_end_15 : decode cX8_end 15 = .ok (.iconst (-1), 1) := by decide +kernel
theorem dX8_end_16 : decode cX8_end 16 = .ok (.ireturn, 1) := by decide +kernel
theorem dX8_end_17 : decode cX8_end 17 = .ok (.aload_n 0, 1) := by decide +kernel
theorem dX8_end_18 : decode cX8_end 18 = .ok (.getfield 20, 3) := by decide +kernel
theorem dX8_end_21 : decode cX8_end 21 = .ok (.iload_n 1, 1) := by decide +kernel
theorem dX8_end_22 : decode cX8_end 22 = .ok (.putfield 94, 3) := by decide +kernel
theorem dX8_end_25 : decode cX8_end 25 = .ok (.iload_n 1, 1) := by decide +kernel
theorem dX8_end_26 : decode cX8_end 26 = .ok (.ireturn, 1) := by decide +kernel
theorem dX8_story_0 : decode cX8_story 0 = .ok (.aload_n 0, 1) := by decide +kernel
theorem dX8_story_1 : decode cX8_story 1 = .ok (.getfield 20, 3) := by decide +kernel
theorem dX8_story_4 : decode cX8_story 4 = .ok (.getfield 101, 3) := by decide +kernel
theorem dX8_story_7 : decode cX8_story 7 = .ok (.bipush 8, 2) := by decide +kernel
theorem dX8_story_9 : decode cX8_story 9 = .ok (.if_icmp .lt 13, 3) := by decide +kernel
theorem dX8_story_12 : decode cX8_story 12 = .ok (.aload_n 0, 1) := by decide +kernel
theorem dX8_story_13 : decode cX8_story 13 = .ok (.getfield 20, 3) := by decide +kernel
theorem dX8_story_16 : decode cX8_story 16 = .ok (.invokevirtual 104, 3) := by decide +kernel
theorem dX8_story_19 : decode cX8_story 19 = .ok (.bipush (-2), 2) := by decide +kernel
theorem dX8_story_21 : decode cX8_story 21 = .ok (.ireturn, 1) := by decide +kernel
theorem dX8_story_22 : decode cX8_story 22 = .ok (.aload_n 0, 1) := by decide +kernel
theorem dX8_story_23 : decode cX8_story 23 = .ok (.getfield 24, 3) := by decide +kernel
theorem dX8_story_26 : decode cX8_story 26 = .ok (.aload_n 0, 1) := by decide +kernel
theorem dX8_story_27 : decode cX8_story 27 = .ok (.getfield 20, 3) := by decide +kernel
theorem dX8_story_30 : decode cX8_story 30 = .ok (.invokevirtual 107, 3) := by decide +kernel
theorem dX8_story_33 : decode cX8_story 33 = .ok (.astore_n 1, 1) := by decide +kernel
theorem dX8_story_34 : decode cX8_story 34 = .ok (.aload_n 1, 1) := by decide +kernel
theorem dX8_story_35 : decode cX8_story 35 = .ok (.ifnonnull 7, 3) := by decide +kernel
theorem dX8_story_38 : decode cX8_story 38 = .ok (.iconst (-1), 1) := by decide +kernel
theorem dX8_story_39 : decode cX8_story 39 = .ok (.goto 11, 3) := by decide +kernel
theorem dX8_story_42 : decode cX8_story 42 = .ok (.aload_n 0, 1) := by decide +kernel
theorem dX8_story_43 : decode cX8_story 43 = .ok (.getfield 20, 3) := by decide +kernel
theorem dX8_story_46 : decode cX8_story 46 = .ok (.aload_n 1, 1) := by decide +kernel
theorem dX8_story_47 : decode cX8_story 47 = .ok (.invokevirtual 111, 3) := by decide +kernel
theorem dX8_story_50 : decode cX8_story 50 = .ok (.ireturn, 1) := by decide +kernel
theorem dX8_guess_0 : decode cX8_guess 0 = .ok (.aload_n 0, 1) := by decide +kernel
theorem dX8_guess_1 : decode cX8_guess 1 = .ok (.getfield 24, 3) := by decide +kernel
theorem dX8_guess_4 : decode cX8_guess 4 = .ok (.aload_n 0, 1) := by decide +kernel
theorem dX8_guess_5 : decode cX8_guess 5 = .ok (.getfield 20, 3) := by decide +kernel
theorem dX8_guess_8 : decode cX8_guess 8 = .ok (.invokevirtual 107, 3) := by decide +kernel
theorem dX8_guess_11 : decode cX8_guess 11 = .ok (.astore_n 1, 1) := by decide +kernel
theorem dX8_guess_12 : decode cX8_guess 12 = .ok (.aload_n 1, 1) := by decide +kernel
theorem dX8_guess_13 : decode cX8_guess 13 = .ok (.ifnonnull 5, 3) := by decide +kernel
theorem dX8_guess_16 : decode cX8_guess 16 = .ok (.iconst (-1), 1) := by decide +kernel
theorem dX8_guess_17 : decode cX8_guess 17 = .ok (.ireturn, 1) := by decide +kernel
theorem dX8_guess_18 : decode cX8_guess 18 = .ok (.aload_n 0, 1) := by decide +kernel
theorem dX8_guess_19 : decode cX8_guess 19 = .ok (.getfield 20, 3) := by decide +kernel
theorem dX8_guess_22 : decode cX8_guess 22 = .ok (.aload_n 1, 1) := by decide +kernel
theorem dX8_guess_23 : decode cX8_guess 23 = .ok (.putfield 115, 3) := by decide +kernel
theorem dX8_guess_26 : decode cX8_guess 26 = .ok (.aload_n 0, 1) := by decide +kernel
theorem dX8_guess_27 : decode cX8_guess 27 = .ok (.getfield 10, 3) := by decide +kernel
theorem dX8_guess_30 : decode cX8_guess 30 = .ok (.invokevirtual 119, 3) := by decide +kernel
theorem dX8_guess_33 : decode cX8_guess 33 = .ok (.aload_n 1, 1) := by decide +kernel
theorem dX8_guess_34 : decode cX8_guess 34 = .ok (.getfield 122, 3) := by decide +kernel
theorem dX8_guess_37 : decode cX8_guess 37 = .ok (.ireturn, 1) := by decide +kernel
theorem dX8_fault_0 : decode cX8_fault 0 = .ok (.iload_n 1, 1) := by decide +kernel
theorem dX8_fault_1 : decode cX8_fault 1 = .ok (.lookupswitch 43 #[(0, 27), (1, 35)], 27) := by decide +kernel
theorem dX8_fault_28 : decode cX8_fault 28 = .ok (.aload_n 0, 1) := by decide +kernel
theorem dX8_fault_29 : decode cX8_fault 29 = .ok (.getfield 20, 3) := by decide +kernel
theorem dX8_fault_32 : decode cX8_fault 32 = .ok (.getfield 127, 3) := by decide +kernel
theorem dX8_fault_35 : decode cX8_fault 35 = .ok (.ireturn, 1) := by decide +kernel
theorem dX8_fault_36 : decode cX8_fault 36 = .ok (.aload_n 0, 1) := by decide +kernel
theorem dX8_fault_37 : decode cX8_fault 37 = .ok (.getfield 20, 3) := by decide +kernel
theorem dX8_fault_40 : decode cX8_fault 40 = .ok (.getfield 130, 3) := by decide +kernel
theorem dX8_fault_43 : decode cX8_fault 43 = .ok (.ireturn, 1) := by decide +kernel
theorem dX8_fault_44 : decode cX8_fault 44 = .ok (.iconst (-1), 1) := by decide +kernel
theorem dX8_fault_45 : decode cX8_fault 45 = .ok (.ireturn, 1) := by decide +kernel
theorem dX8_strike_0 : decode cX8_strike 0 = .ok (.aload_n 0, 1) := by decide +kernel
theorem dX8_strike_1 : decode cX8_strike 1 = .ok (.getfield 20, 3) := by decide +kernel
theorem dX8_strike_4 : decode cX8_strike 4 = .ok (.iload_n 1, 1) := by decide +kernel
theorem dX8_strike_5 : decode cX8_strike 5 = .ok (.invokevirtual 133, 3) := by decide +kernel
theorem dX8_strike_8 : decode cX8_strike 8 = .ok (.ifCond .eq 16, 3) := by decide +kernel
theorem dX8_strike_11 : decode cX8_strike 11 = .ok (.aload_n 0, 1) := by decide +kernel
theorem dX8_strike_12 : decode cX8_strike 12 = .ok (.getfield 20, 3) := by decide +kernel
theorem dX8_strike_15 : decode cX8_strike 15 = .ok (.getfield 136, 3) := by decide +kernel
theorem dX8_strike_18 : decode cX8_strike 18 = .ok (.iload_n 1, 1) := by decide +kernel
theorem dX8_strike_19 : decode cX8_strike 19 = .ok (.iaload, 1) := by decide +kernel
theorem dX8_strike_20 : decode cX8_strike 20 = .ok (.iconst (-1), 1) := by decide +kernel
theorem dX8_strike_21 : decode cX8_strike 21 = .ok (.if_icmp .eq 5, 3) := by decide +kernel
theorem dX8_strike_24 : decode cX8_strike 24 = .ok (.iconst 0, 1) := by decide +kernel
theorem dX8_strike_25 : decode cX8_strike 25 = .ok (.ireturn, 1) := by decide +kernel
theorem dX8_strike_26 : decode cX8_strike 26 = .ok (.aload_n 0, 1) := by decide +kernel
theorem dX8_strike_27 : decode cX8_strike 27 = .ok (.getfield 20, 3) := by decide +kernel
theorem dX8_strike_30 : decode cX8_strike 30 = .ok (.getfield 136, 3) := by decide +kernel
theorem dX8_strike_33 : decode cX8_strike 33 = .ok (.iload_n 1, 1) := by decide +kernel
theorem dX8_strike_34 : decode cX8_strike 34 = .ok (.aload_n 0, 1) := by decide +kernel
theorem dX8_strike_35 : decode cX8_strike 35 = .ok (.getfield 20, 3) := by decide +kernel
theorem dX8_strike_38 : decode cX8_strike 38 = .ok (.getfield 140, 3) := by decide +kernel
theorem dX8_strike_41 : decode cX8_strike 41 = .ok (.iastore, 1) := by decide +kernel
theorem dX8_strike_42 : decode cX8_strike 42 = .ok (.iconst 1, 1) := by decide +kernel
theorem dX8_strike_43 : decode cX8_strike 43 = .ok (.ireturn, 1) := by decide +kernel
theorem dX8_day_0 : decode cX8_day 0 = .ok (.iload_n 1, 1) := by decide +kernel
theorem dX8_day_1 : decode cX8_day 1 = .ok (.aload_n 0, 1) := by decide +kernel
theorem dX8_day_2 : decode cX8_day 2 = .ok (.getfield 20, 3) := by decide +kernel
theorem dX8_day_5 : decode cX8_day 5 = .ok (.getfield 140, 3) := by decide +kernel
theorem dX8_day_8 : decode cX8_day 8 = .ok (.if_icmp .lt 10, 3) := by decide +kernel
theorem dX8_day_11 : decode cX8_day 11 = .ok (.iload_n 1, 1) := by decide +kernel
theorem dX8_day_12 : decode cX8_day 12 = .ok (.sipush 999, 3) := by decide +kernel
theorem dX8_day_15 : decode cX8_day 15 = .ok (.if_icmp .le 5, 3) := by decide +kernel
theorem dX8_day_18 : decode cX8_day 18 = .ok (.iconst 0, 1) := by decide +kernel
theorem dX8_day_19 : decode cX8_day 19 = .ok (.ireturn, 1) := by decide +kernel
theorem dX8_day_20 : decode cX8_day 20 = .ok (.aload_n 0, 1) := by decide +kernel
theorem dX8_day_21 : decode cX8_day 21 = .ok (.getfield 20, 3) := by decide +kernel
theorem dX8_day_24 : decode cX8_day 24 = .ok (.iload_n 1, 1) := by decide +kernel
theorem dX8_day_25 : decode cX8_day 25 = .ok (.putfield 140, 3) := by decide +kernel
theorem dX8_day_28 : decode cX8_day 28 = .ok (.iconst 1, 1) := by decide +kernel
theorem dX8_day_29 : decode cX8_day 29 = .ok (.ireturn, 1) := by decide +kernel
theorem dX8_view_0 : decode cX8_view 0 = .ok (.iload_n 1, 1) := by decide +kernel
theorem dX8_view_1 : decode cX8_view 1 = .ok (.iconst (-1), 1) := by decide +kernel
theorem dX8_view_2 : decode cX8_view 2 = .ok (.if_icmp .lt 14, 3) := by decide +kernel
theorem dX8_view_5 : decode cX8_view 5 = .ok (.iload_n 1, 1) := by decide +kernel
theorem dX8_view_6 : decode cX8_view 6 = .ok (.aload_n 0, 1) := by decide +kernel
theorem dX8_view_7 : decode cX8_view 7 = .ok (.getfield 20, 3) := by decide +kernel
theorem dX8_view_10 : decode cX8_view 10 = .ok (.getfield 140, 3) := by decide +kernel
theorem dX8_view_13 : decode cX8_view 13 = .ok (.if_icmp .le 5, 3) := by decide +kernel
theorem dX8_view_16 : decode cX8_view 16 = .ok (.iconst 0, 1) := by decide +kernel
theorem dX8_view_17 : decode cX8_view 17 = .ok (.ireturn, 1) := by decide +kernel
theorem dX8_view_18 : decode cX8_view 18 = .ok (.aload_n 0, 1) := by decide +kernel
theorem dX8_view_19 : decode cX8_view 19 = .ok (.getfield 20, 3) := by decide +kernel
theorem dX8_view_22 : decode cX8_view 22 = .ok (.iload_n 1, 1) := by decide +kernel
theorem dX8_view_23 : decode cX8_view 23 = .ok (.putfield 143, 3) := by decide +kernel
theorem dX8_view_26 : decode cX8_view 26 = .ok (.iconst 1, 1) := by decide +kernel
theorem dX8_view_27 : decode cX8_view 27 = .ok (.ireturn, 1) := by decide +kernel
theorem dX8_so_0 : decode cX8_so 0 = .ok (.iload_n 1, 1) := by decide +kernel
theorem dX8_so_1 : decode cX8_so 1 = .ok (.iconst (-1), 1) := by decide +kernel
theorem dX8_so_2 : decode cX8_so 2 = .ok (.if_icmp .ne 13, 3) := by decide +kernel
theorem dX8_so_5 : decode cX8_so 5 = .ok (.aload_n 0, 1) := by decide +kernel
theorem dX8_so_6 : decode cX8_so 6 = .ok (.getfield 20, 3) := by decide +kernel
theorem dX8_so_9 : decode cX8_so 9 = .ok (.getfield 115, 3) := by decide +kernel
theorem dX8_so_12 : decode cX8_so 12 = .ok (.goto 11, 3) := by decide +kernel
theorem dX8_so_15 : decode cX8_so 15 = .ok (.aload_n 0, 1) := by decide +kernel
theorem dX8_so_16 : decode cX8_so 16 = .ok (.getfield 20, 3) := by decide +kernel
theorem dX8_so_19 : decode cX8_so 19 = .ok (.iload_n 1, 1) := by decide +kernel
theorem dX8_so_20 : decode cX8_so 20 = .ok (.invokevirtual 146, 3) := by decide +kernel
theorem dX8_so_23 : decode cX8_so 23 = .ok (.astore_n 2, 1) := by decide +kernel
theorem dX8_so_24 : decode cX8_so 24 = .ok (.aload_n 2, 1) := by decide +kernel
theorem dX8_so_25 : decode cX8_so 25 = .ok (.ifnonnull 5, 3) := by decide +kernel
theorem dX8_so_28 : decode cX8_so 28 = .ok (.iconst (-1), 1) := by decide +kernel
theorem dX8_so_29 : decode cX8_so 29 = .ok (.ireturn, 1) := by decide +kernel
theorem dX8_so_30 : decode cX8_so 30 = .ok (.aload_n 0, 1) := by decide +kernel
theorem dX8_so_31 : decode cX8_so 31 = .ok (.getfield 10, 3) := by decide +kernel
theorem dX8_so_34 : decode cX8_so 34 = .ok (.getfield 150, 3) := by decide +kernel
theorem dX8_so_37 : decode cX8_so 37 = .ok (.aload_n 0, 1) := by decide +kernel
theorem dX8_so_38 : decode cX8_so 38 = .ok (.getfield 20, 3) := by decide +kernel
theorem dX8_so_41 : decode cX8_so 41 = .ok (.getfield 39, 3) := by decide +kernel
theorem dX8_so_44 : decode cX8_so 44 = .ok (.aload_n 2, 1) := by decide +kernel
theorem dX8_so_45 : decode cX8_so 45 = .ok (.aload_n 0, 1) := by decide +kernel
theorem dX8_so_46 : decode cX8_so 46 = .ok (.getfield 20, 3) := by decide +kernel
theorem dX8_so_49 : decode cX8_so 49 = .ok (.getfield 71, 3) := by decide +kernel
theorem dX8_so_52 : decode cX8_so 52 = .ok (.invokevirtual 154, 3) := by decide +kernel
theorem dX8_so_55 : decode cX8_so 55 = .ok (.ifCond .eq 7, 3) := by decide +kernel
theorem dX8_so_58 : decode cX8_so 58 = .ok (.iconst 1, 1) := by decide +kernel
theorem dX8_so_59 : decode cX8_so 59 = .ok (.goto 4, 3) := by decide +kernel
theorem dX8_so_62 : decode cX8_so 62 = .ok (.iconst 0, 1) := by decide +kernel
theorem dX8_so_63 : decode cX8_so 63 = .ok (.ireturn, 1) := by decide +kernel
theorem dX8_breaks_0 : decode cX8_breaks 0 = .ok (.aload_n 0, 1) := by decide +kernel
theorem dX8_breaks_1 : decode cX8_breaks 1 = .ok (.getfield 20, 3) := by decide +kernel
theorem dX8_breaks_4 : decode cX8_breaks 4 = .ok (.iload_n 1, 1) := by decide +kernel
theorem dX8_breaks_5 : decode cX8_breaks 5 = .ok (.invokevirtual 146, 3) := by decide +kernel
theorem dX8_breaks_8 : decode cX8_breaks 8 = .ok (.astore_n 3, 1) := by decide +kernel
theorem dX8_breaks_9 : decode cX8_breaks 9 = .ok (.aload_n 3, 1) := by decide +kernel
theorem dX8_breaks_10 : decode cX8_breaks 10 = .ok (.ifnonnull 5, 3) := by decide +kernel
theorem dX8_breaks_13 : decode cX8_breaks 13 = .ok (.iconst (-1), 1) := by decide +kernel
theorem dX8_breaks_14 : decode cX8_breaks 14 = .ok (.ireturn, 1) := by decide +kernel
theorem dX8_breaks_15 : decode cX8_breaks 15 = .ok (.aload_n 0, 1) := by decide +kernel
theorem dX8_breaks_16 : decode cX8_breaks 16 = .ok (.getfield 10, 3) := by decide +kernel
theorem dX8_breaks_19 : decode cX8_breaks 19 = .ok (.getfield 150, 3) := by decide +kernel
theorem dX8_breaks_22 : decode cX8_breaks 22 = .ok (.aload_n 0, 1) := by decide +kernel
theorem dX8_breaks_23 : decode cX8_breaks 23 = .ok (.getfield 20, 3) := by decide +kernel
theorem dX8_breaks_26 : decode cX8_breaks 26 = .ok (.getfield 39, 3) := by decide +kernel
theorem dX8_breaks_29 : decode cX8_breaks 29 = .ok (.aload_n 3, 1) := by decide +kernel
theorem dX8_breaks_30 : decode cX8_breaks 30 = .ok (.aload_n 0, 1) := by decide +kernel
theorem dX8_breaks_31 : decode cX8_breaks 31 = .ok (.getfield 20, 3) := by decide +kernel
theorem dX8_breaks_34 : decode cX8_breaks 34 = .ok (.getfield 71, 3) := by decide +kernel
theorem dX8_breaks_37 : decode cX8_breaks 37 = .ok (.iload_n 2, 1) := by decide +kernel
theorem dX8_breaks_38 : decode cX8_breaks 38 = .ok (.invokevirtual 160, 3) := by decide +kernel
theorem dX8_breaks_41 : decode cX8_breaks 41 = .ok (.ireturn, 1) := by decide +kernel
theorem dX8_worlds_0 : decode cX8_worlds 0 = .ok (.aload_n 0, 1) := by decide +kernel
theorem dX8_worlds_1 : decode cX8_worlds 1 = .ok (.getfield 10, 3) := by decide +kernel
theorem dX8_worlds_4 : decode cX8_worlds 4 = .ok (.invokevirtual 164, 3) := by decide +kernel
theorem dX8_worlds_7 : decode cX8_worlds 7 = .ok (.ireturn, 1) := by decide +kernel
theorem dX8_forms_0 : decode cX8_forms 0 = .ok (.aload_n 0, 1) := by decide +kernel
theorem dX8_forms_1 : decode cX8_forms 1 = .ok (.getfield 10, 3) := by decide +kernel
theorem dX8_forms_4 : decode cX8_forms 4 = .ok (.invokevirtual 168, 3) := by decide +kernel
theorem dX8_forms_7 : decode cX8_forms 7 = .ok (.ireturn, 1) := by decide +kernel
theorem dX8_form_0 : decode cX8_form 0 = .ok (.aload_n 0, 1) := by decide +kernel
theorem dX8_form_1 : decode cX8_form 1 = .ok (.aload_n 0, 1) := by decide +kernel
theorem dX8_form_2 : decode cX8_form 2 = .ok (.getfield 10, 3) := by decide +kernel
theorem dX8_form_5 : decode cX8_form 5 = .ok (.iload_n 1, 1) := by decide +kernel
theorem dX8_form_6 : decode cX8_form 6 = .ok (.invokevirtual 171, 3) := by decide +kernel
theorem dX8_form_9 : decode cX8_form 9 = .ok (.invokevirtual 174, 3) := by decide +kernel
theorem dX8_form_12 : decode cX8_form 12 = .ok (.ireturn, 1) := by decide +kernel
theorem dX8_name_0 : decode cX8_name 0 = .ok (.aload_n 0, 1) := by decide +kernel
theorem dX8_name_1 : decode cX8_name 1 = .ok (.getfield 10, 3) := by decide +kernel
theorem dX8_name_4 : decode cX8_name 4 = .ok (.invokevirtual 177, 3) := by decide +kernel
theorem dX8_name_7 : decode cX8_name 7 = .ok (.istore_n 1, 1) := by decide +kernel
theorem dX8_name_8 : decode cX8_name 8 = .ok (.iload_n 1, 1) := by decide +kernel
theorem dX8_name_9 : decode cX8_name 9 = .ok (.i2l, 1) := by decide +kernel
theorem dX8_name_10 : decode cX8_name 10 = .ok (.aload_n 0, 1) := by decide +kernel
theorem dX8_name_11 : decode cX8_name 11 = .ok (.getfield 20, 3) := by decide +kernel
theorem dX8_name_14 : decode cX8_name 14 = .ok (.getfield 71, 3) := by decide +kernel
theorem dX8_name_17 : decode cX8_name 17 = .ok (.lcmp, 1) := by decide +kernel
theorem dX8_name_18 : decode cX8_name 18 = .ok (.ifCond .eq 15, 3) := by decide +kernel
theorem dX8_name_21 : decode cX8_name 21 = .ok (.aload_n 0, 1) := by decide +kernel
theorem dX8_name_22 : decode cX8_name 22 = .ok (.iload_n 1, 1) := by decide +kernel
theorem dX8_name_23 : decode cX8_name 23 = .ok (.invokevirtual 174, 3) := by decide +kernel
theorem dX8_name_26 : decode cX8_name 26 = .ok (.ifCond .eq 7, 3) := by decide +kernel
theorem dX8_name_29 : decode cX8_name 29 = .ok (.iconst 1, 1) := by decide +kernel
theorem dX8_name_30 : decode cX8_name 30 = .ok (.goto 4, 3) := by decide +kernel
theorem dX8_name_33 : decode cX8_name 33 = .ok (.iconst 0, 1) := by decide +kernel
theorem dX8_name_34 : decode cX8_name 34 = .ok (.ireturn, 1) := by decide +kernel
theorem dX8_least_0 : decode cX8_least 0 = .ok (.iload_n 1, 1) := by decide +kernel
theorem dX8_least_1 : decode cX8_least 1 = .ok (.invokestatic 180, 3) := by decide +kernel
theorem dX8_least_4 : decode cX8_least 4 = .ok (.ifCond .eq 14, 3) := by decide +kernel
theorem dX8_least_7 : decode cX8_least 7 = .ok (.aload_n 0, 1) := by decide +kernel
theorem dX8_least_8 : decode cX8_least 8 = .ok (.getfield 10, 3) := by decide +kernel
theorem dX8_least_11 : decode cX8_least 11 = .ok (.iload_n 1, 1) := by decide +kernel
theorem dX8_least_12 : decode cX8_least 12 = .ok (.invokevirtual 183, 3) := by decide +kernel
theorem dX8_least_15 : decode cX8_least 15 = .ok (.goto 4, 3) := by decide +kernel
theorem dX8_least_18 : decode cX8_least 18 = .ok (.iconst (-1), 1) := by decide +kernel
theorem dX8_least_19 : decode cX8_least 19 = .ok (.ireturn, 1) := by decide +kernel
theorem dX8_core_0 : decode cX8_core 0 = .ok (.aload_n 0, 1) := by decide +kernel
theorem dX8_core_1 : decode cX8_core 1 = .ok (.getfield 10, 3) := by decide +kernel
theorem dX8_core_4 : decode cX8_core 4 = .ok (.invokevirtual 186, 3) := by decide +kernel
theorem dX8_core_7 : decode cX8_core 7 = .ok (.iload_n 1, 1) := by decide +kernel
theorem dX8_core_8 : decode cX8_core 8 = .ok (.invokestatic 189, 3) := by decide +kernel
theorem dX8_core_11 : decode cX8_core 11 = .ok (.ireturn, 1) := by decide +kernel
theorem dX8_sure_0 : decode cX8_sure 0 = .ok (.aload_n 0, 1) := by decide +kernel
theorem dX8_sure_1 : decode cX8_sure 1 = .ok (.getfield 10, 3) := by decide +kernel
theorem dX8_sure_4 : decode cX8_sure 4 = .ok (.aload_n 0, 1) := by decide +kernel
theorem dX8_sure_5 : decode cX8_sure 5 = .ok (.getfield 20, 3) := by decide +kernel
theorem dX8_sure_8 : decode cX8_sure 8 = .ok (.getfield 39, 3) := by decide +kernel
theorem dX8_sure_11 : decode cX8_sure 11 = .ok (.iload_n 1, 1) := by decide +kernel
theorem dX8_sure_12 : decode cX8_sure 12 = .ok (.iload_n 2, 1) := by decide +kernel
theorem dX8_sure_13 : decode cX8_sure 13 = .ok (.iload_n 3, 1) := by decide +kernel
theorem dX8_sure_14 : decode cX8_sure 14 = .ok (.invokevirtual 63, 3) := by decide +kernel
theorem dX8_sure_17 : decode cX8_sure 17 = .ok (.invokevirtual 192, 3) := by decide +kernel
theorem dX8_sure_20 : decode cX8_sure 20 = .ok (.ireturn, 1) := by decide +kernel
theorem dX8_cause_0 : decode cX8_cause 0 = .ok (.aload_n 0, 1) := by decide +kernel
theorem dX8_cause_1 : decode cX8_cause 1 = .ok (.getfield 20, 3) := by decide +kernel
theorem dX8_cause_4 : decode cX8_cause 4 = .ok (.getfield 39, 3) := by decide +kernel
theorem dX8_cause_7 : decode cX8_cause 7 = .ok (.iload_n 1, 1) := by decide +kernel
theorem dX8_cause_8 : decode cX8_cause 8 = .ok (.iload_n 2, 1) := by decide +kernel
theorem dX8_cause_9 : decode cX8_cause 9 = .ok (.iload_n 3, 1) := by decide +kernel
theorem dX8_cause_10 : decode cX8_cause 10 = .ok (.invokevirtual 63, 3) := by decide +kernel
theorem dX8_cause_13 : decode cX8_cause 13 = .ok (.istore 5, 2) := by decide +kernel
theorem dX8_cause_15 : decode cX8_cause 15 = .ok (.aload_n 0, 1) := by decide +kernel
theorem dX8_cause_16 : decode cX8_cause 16 = .ok (.getfield 10, 3) := by decide +kernel
theorem dX8_cause_19 : decode cX8_cause 19 = .ok (.iload 5, 2) := by decide +kernel
theorem dX8_cause_21 : decode cX8_cause 21 = .ok (.invokevirtual 192, 3) := by decide +kernel
theorem dX8_cause_24 : decode cX8_cause 24 = .ok (.istore 6, 2) := by decide +kernel
theorem dX8_cause_26 : decode cX8_cause 26 = .ok (.iload 6, 2) := by decide +kernel
theorem dX8_cause_28 : decode cX8_cause 28 = .ok (.iconst (-1), 1) := by decide +kernel
theorem dX8_cause_29 : decode cX8_cause 29 = .ok (.if_icmp .ne 7, 3) := by decide +kernel
theorem dX8_cause_32 : decode cX8_cause 32 = .ok (.iconst (-1), 1) := by decide +kernel
theorem dX8_cause_33 : decode cX8_cause 33 = .ok (.goto 19, 3) := by decide +kernel
theorem dX8_cause_36 : decode cX8_cause 36 = .ok (.aload_n 0, 1) := by decide +kernel
theorem dX8_cause_37 : decode cX8_cause 37 = .ok (.getfield 10, 3) := by decide +kernel
theorem dX8_cause_40 : decode cX8_cause 40 = .ok (.iload 5, 2) := by decide +kernel
theorem dX8_cause_42 : decode cX8_cause 42 = .ok (.iload 6, 2) := by decide +kernel
theorem dX8_cause_44 : decode cX8_cause 44 = .ok (.invokevirtual 195, 3) := by decide +kernel
theorem dX8_cause_47 : decode cX8_cause 47 = .ok (.iload 4, 2) := by decide +kernel
theorem dX8_cause_49 : decode cX8_cause 49 = .ok (.invokestatic 189, 3) := by decide +kernel
theorem dX8_cause_52 : decode cX8_cause 52 = .ok (.ireturn, 1) := by decide +kernel
theorem dX8_without_0 : decode cX8_without 0 = .ok (.aload_n 0, 1) := by decide +kernel
theorem dX8_without_1 : decode cX8_without 1 = .ok (.getfield 10, 3) := by decide +kernel
theorem dX8_without_4 : decode cX8_without 4 = .ok (.iload_n 1, 1) := by decide +kernel
theorem dX8_without_5 : decode cX8_without 5 = .ok (.invokevirtual 198, 3) := by decide +kernel
theorem dX8_without_8 : decode cX8_without 8 = .ok (.ireturn, 1) := by decide +kernel
theorem dX8_questions_0 : decode cX8_questions 0 = .ok (.aload_n 0, 1) := by decide +kernel
theorem dX8_questions_1 : decode cX8_questions 1 = .ok (.getfield 10, 3) := by decide +kernel
theorem dX8_questions_4 : decode cX8_questions 4 = .ok (.invokevirtual 201, 3) := by decide +kernel
theorem dX8_questions_7 : decode cX8_questions 7 = .ok (.ireturn, 1) := by decide +kernel
theorem dX8_settle_0 : decode cX8_settle 0 = .ok (.aload_n 0, 1) := by decide +kernel
theorem dX8_settle_1 : decode cX8_settle 1 = .ok (.getfield 10, 3) := by decide +kernel
theorem dX8_settle_4 : decode cX8_settle 4 = .ok (.invokevirtual 204, 3) := by decide +kernel
theorem dX8_settle_7 : decode cX8_settle 7 = .ok (.istore_n 2, 1) := by decide +kernel
theorem dX8_settle_8 : decode cX8_settle 8 = .ok (.iload_n 2, 1) := by decide +kernel
theorem dX8_settle_9 : decode cX8_settle 9 = .ok (.iconst (-1), 1) := by decide +kernel
theorem dX8_settle_10 : decode cX8_settle 10 = .ok (.if_icmp .ne 5, 3) := by decide +kernel
theorem dX8_settle_13 : decode cX8_settle 13 = .ok (.iconst (-1), 1) := by decide +kernel
theorem dX8_settle_14 : decode cX8_settle 14 = .ok (.ireturn, 1) := by decide +kernel
theorem dX8_settle_15 : decode cX8_settle 15 = .ok (.aload_n 0, 1) := by decide +kernel
theorem dX8_settle_16 : decode cX8_settle 16 = .ok (.getfield 20, 3) := by decide +kernel
theorem dX8_settle_19 : decode cX8_settle 19 = .ok (.getfield 39, 3) := by decide +kernel
theorem dX8_settle_22 : decode cX8_settle 22 = .ok (.iload_n 2, 1) := by decide +kernel
theorem dX8_settle_23 : decode cX8_settle 23 = .ok (.invokevirtual 207, 3) := by decide +kernel
theorem dX8_settle_26 : decode cX8_settle 26 = .ok (.istore_n 3, 1) := by decide +kernel
theorem dX8_settle_27 : decode cX8_settle 27 = .ok (.iload_n 1, 1) := by decide +kernel
theorem dX8_settle_28 : decode cX8_settle 28 = .ok (.tableswitch 69 0 3 #[32, 34, 47, 60], 32) := by decide +kernel
theorem dX8_settle_60 : decode cX8_settle 60 = .ok (.iload_n 3, 1) := by decide +kernel
theorem dX8_settle_61 : decode cX8_settle 61 = .ok (.ireturn, 1) := by decide +kernel
theorem dX8_settle_62 : decode cX8_settle 62 = .ok (.aload_n 0, 1) := by decide +kernel
theorem dX8_settle_63 : decode cX8_settle 63 = .ok (.getfield 20, 3) := by decide +kernel
theorem dX8_settle_66 : decode cX8_settle 66 = .ok (.getfield 39, 3) := by decide +kernel
theorem dX8_settle_69 : decode cX8_settle 69 = .ok (.iload_n 3, 1) := by decide +kernel
theorem dX8_settle_70 : decode cX8_settle 70 = .ok (.iload_n 2, 1) := by decide +kernel
theorem dX8_settle_71 : decode cX8_settle 71 = .ok (.invokevirtual 210, 3) := by decide +kernel
theorem dX8_settle_74 : decode cX8_settle 74 = .ok (.ireturn, 1) := by decide +kernel
theorem dX8_settle_75 : decode cX8_settle 75 = .ok (.aload_n 0, 1) := by decide +kernel
theorem dX8_settle_76 : decode cX8_settle 76 = .ok (.getfield 20, 3) := by decide +kernel
theorem dX8_settle_79 : decode cX8_settle 79 = .ok (.getfield 39, 3) := by decide +kernel
theorem dX8_settle_82 : decode cX8_settle 82 = .ok (.iload_n 3, 1) := by decide +kernel
theorem dX8_settle_83 : decode cX8_settle 83 = .ok (.iload_n 2, 1) := by decide +kernel
theorem dX8_settle_84 : decode cX8_settle 84 = .ok (.invokevirtual 213, 3) := by decide +kernel
theorem dX8_settle_87 : decode cX8_settle 87 = .ok (.ireturn, 1) := by decide +kernel
theorem dX8_settle_88 : decode cX8_settle 88 = .ok (.aload_n 0, 1) := by decide +kernel
theorem dX8_settle_89 : decode cX8_settle 89 = .ok (.getfield 10, 3) := by decide +kernel
theorem dX8_settle_92 : decode cX8_settle 92 = .ok (.iload_n 2, 1) := by decide +kernel
theorem dX8_settle_93 : decode cX8_settle 93 = .ok (.invokevirtual 216, 3) := by decide +kernel
theorem dX8_settle_96 : decode cX8_settle 96 = .ok (.ireturn, 1) := by decide +kernel
theorem dX8_settle_97 : decode cX8_settle 97 = .ok (.iconst (-1), 1) := by decide +kernel
theorem dX8_settle_98 : decode cX8_settle 98 = .ok (.ireturn, 1) := by decide +kernel
theorem dX8_near_0 : decode cX8_near 0 = .ok (.aload_n 0, 1) := by decide +kernel
theorem dX8_near_1 : decode cX8_near 1 = .ok (.getfield 10, 3) := by decide +kernel
theorem dX8_near_4 : decode cX8_near 4 = .ok (.invokevirtual 219, 3) := by decide +kernel
theorem dX8_near_7 : decode cX8_near 7 = .ok (.istore_n 1, 1) := by decide +kernel
theorem dX8_near_8 : decode cX8_near 8 = .ok (.iload_n 1, 1) := by decide +kernel
theorem dX8_near_9 : decode cX8_near 9 = .ok (.iconst (-1), 1) := by decide +kernel
theorem dX8_near_10 : decode cX8_near 10 = .ok (.if_icmp .ne 5, 3) := by decide +kernel
theorem dX8_near_13 : decode cX8_near 13 = .ok (.iconst (-1), 1) := by decide +kernel
theorem dX8_near_14 : decode cX8_near 14 = .ok (.ireturn, 1) := by decide +kernel
theorem dX8_near_15 : decode cX8_near 15 = .ok (.aload_n 0, 1) := by decide +kernel
theorem dX8_near_16 : decode cX8_near 16 = .ok (.getfield 20, 3) := by decide +kernel
theorem dX8_near_19 : decode cX8_near 19 = .ok (.getfield 71, 3) := by decide +kernel
theorem dX8_near_22 : decode cX8_near 22 = .ok (.iload_n 1, 1) := by decide +kernel
theorem dX8_near_23 : decode cX8_near 23 = .ok (.i2l, 1) := by decide +kernel
theorem dX8_near_24 : decode cX8_near 24 = .ok (.lxor, 1) := by decide +kernel
theorem dX8_near_25 : decode cX8_near 25 = .ok (.invokestatic 222, 3) := by decide +kernel
theorem dX8_near_28 : decode cX8_near 28 = .ok (.istore_n 2, 1) := by decide +kernel
theorem dX8_near_29 : decode cX8_near 29 = .ok (.aload_n 0, 1) := by decide +kernel
theorem dX8_near_30 : decode cX8_near 30 = .ok (.getfield 20, 3) := by decide +kernel
theorem dX8_near_33 : decode cX8_near 33 = .ok (.iload_n 1, 1) := by decide +kernel
theorem dX8_near_34 : decode cX8_near 34 = .ok (.i2l, 1) := by decide +kernel
theorem dX8_near_35 : decode cX8_near 35 = .ok (.putfield 71, 3) := by decide +kernel
theorem dX8_near_38 : decode cX8_near 38 = .ok (.iload_n 2, 1) := by decide +kernel
theorem dX8_near_39 : decode cX8_near 39 = .ok (.ireturn, 1) := by decide +kernel
theorem dX8_holds_0 : decode cX8_holds 0 = .ok (.iload_n 1, 1) := by decide +kernel
theorem dX8_holds_1 : decode cX8_holds 1 = .ok (.lookupswitch 43 #[(0, 27), (1, 35)], 27) := by decide +kernel
theorem dX8_holds_28 : decode cX8_holds 28 = .ok (.aload_n 0, 1) := by decide +kernel
theorem dX8_holds_29 : decode cX8_holds 29 = .ok (.getfield 10, 3) := by decide +kernel
theorem dX8_holds_32 : decode cX8_holds 32 = .ok (.invokevirtual 227, 3) := by decide +kernel
theorem dX8_holds_35 : decode cX8_holds 35 = .ok (.ireturn, 1) := by decide +kernel
theorem dX8_holds_36 : decode cX8_holds 36 = .ok (.aload_n 0, 1) := by decide +kernel
theorem dX8_holds_37 : decode cX8_holds 37 = .ok (.getfield 10, 3) := by decide +kernel
theorem dX8_holds_40 : decode cX8_holds 40 = .ok (.invokevirtual 230, 3) := by decide +kernel
theorem dX8_holds_43 : decode cX8_holds 43 = .ok (.ireturn, 1) := by decide +kernel
theorem dX8_holds_44 : decode cX8_holds 44 = .ok (.iconst (-1), 1) := by decide +kernel
theorem dX8_holds_45 : decode cX8_holds 45 = .ok (.ireturn, 1) := by decide +kernel
theorem dX8_against_0 : decode cX8_against 0 = .ok (.aload_n 0, 1) := by decide +kernel
theorem dX8_against_1 : decode cX8_against 1 = .ok (.aload_n 0, 1) := by decide +kernel
theorem dX8_against_2 : decode cX8_against 2 = .ok (.getfield 10, 3) := by decide +kernel
theorem dX8_against_5 : decode cX8_against 5 = .ok (.invokevirtual 233, 3) := by decide +kernel
theorem dX8_against_8 : decode cX8_against 8 = .ok (.invokevirtual 174, 3) := by decide +kernel
theorem dX8_against_11 : decode cX8_against 11 = .ok (.ireturn, 1) := by decide +kernel
theorem dX8_many_0 : decode cX8_many 0 = .ok (.iload_n 1, 1) := by decide +kernel
theorem dX8_many_1 : decode cX8_many 1 = .ok (.tableswitch 159 0 10 #[59, 59, 59, 72, 83, 91, 99, 107, 115, 126, 151], 59) := by decide +kernel
theorem dX8_many_60 : decode cX8_many 60 = .ok (.aload_n 0, 1) := by decide +kernel
theorem dX8_many_61 : decode cX8_many 61 = .ok (.getfield 20, 3) := by decide +kernel
theorem dX8_many_64 : decode cX8_many 64 = .ok (.getfield 39, 3) := by decide +kernel
theorem dX8_many_67 : decode cX8_many 67 = .ok (.getfield 236, 3) := by decide +kernel
theorem dX8_many_70 : decode cX8_many 70 = .ok (.iload_n 1, 1) := by decide +kernel
theorem dX8_many_71 : decode cX8_many 71 = .ok (.iaload, 1) := by decide +kernel
theorem dX8_many_72 : decode cX8_many 72 = .ok (.ireturn, 1) := by decide +kernel
theorem dX8_many_73 : decode cX8_many 73 = .ok (.aload_n 0, 1) := by decide +kernel
theorem dX8_many_74 : decode cX8_many 74 = .ok (.getfield 20, 3) := by decide +kernel
theorem dX8_many_77 : decode cX8_many 77 = .ok (.getfield 39, 3) := by decide +kernel
theorem dX8_many_80 : decode cX8_many 80 = .ok (.getfield 239, 3) := by decide +kernel
theorem dX8_many_83 : decode cX8_many 83 = .ok (.ireturn, 1) := by decide +kernel
theorem dX8_many_84 : decode cX8_many 84 = .ok (.aload_n 0, 1) := by decide +kernel
theorem dX8_many_85 : decode cX8_many 85 = .ok (.getfield 20, 3) := by decide +kernel
theorem dX8_many_88 : decode cX8_many 88 = .ok (.getfield 101, 3) := by decide +kernel
theorem dX8_many_91 : decode cX8_many 91 = .ok (.ireturn, 1) := by decide +kernel
theorem dX8_many_92 : decode cX8_many 92 = .ok (.aload_n 0, 1) := by decide +kernel
theorem dX8_many_93 : decode cX8_many 93 = .ok (.getfield 20, 3) := by decide +kernel
theorem dX8_many_96 : decode cX8_many 96 = .ok (.getfield 140, 3) := by decide +kernel
theorem dX8_many_99 : decode cX8_many 99 = .ok (.ireturn, 1) := by decide +kernel
theorem dX8_many_100 : decode cX8_many 100 = .ok (.aload_n 0, 1) := by decide +kernel
theorem dX8_many_101 : decode cX8_many 101 = .ok (.getfield 20, 3) := by decide +kernel
theorem dX8_many_104 : decode cX8_many 104 = .ok (.getfield 143, 3) := by decide +kernel
theorem dX8_many_107 : decode cX8_many 107 = .ok (.ireturn, 1) := by decide +kernel
theorem dX8_many_108 : decode cX8_many 108 = .ok (.aload_n 0, 1) := by decide +kernel
theorem dX8_many_109 : decode cX8_many 109 = .ok (.getfield 20, 3) := by decide +kernel
theorem dX8_many_112 : decode cX8_many 112 = .ok (.invokevirtual 242, 3) := by decide +kernel
theorem dX8_many_115 : decode cX8_many 115 = .ok (.ireturn, 1) := by decide +kernel
theorem dX8_many_116 : decode cX8_many 116 = .ok (.aload_n 0, 1) := by decide +kernel
theorem dX8_many_117 : decode cX8_many 117 = .ok (.getfield 20, 3) := by decide +kernel
theorem dX8_many_120 : decode cX8_many 120 = .ok (.getfield 71, 3) := by decide +kernel
theorem dX8_many_123 : decode cX8_many 123 = .ok (.invokestatic 222, 3) := by decide +kernel
theorem dX8_many_126 : decode cX8_many 126 = .ok (.ireturn, 1) := by decide +kernel
theorem dX8_many_127 : decode cX8_many 127 = .ok (.aload_n 0, 1) := by decide +kernel
theorem dX8_many_128 : decode cX8_many 128 = .ok (.getfield 20, 3) := by decide +kernel
theorem dX8_many_131 : decode cX8_many 131 = .ok (.getfield 115, 3) := by decide +kernel
theorem dX8_many_134 : decode cX8_many 134 = .ok (.ifnonnull 7, 3) := by decide +kernel
theorem dX8_many_137 : decode cX8_many 137 = .ok (.iconst 0, 1) := by decide +kernel
theorem dX8_many_138 : decode cX8_many 138 = .ok (.goto 13, 3) := by decide +kernel
theorem dX8_many_141 : decode cX8_many 141 = .ok (.aload_n 0, 1) := by decide +kernel
theorem dX8_many_142 : decode cX8_many 142 = .ok (.getfield 20, 3) := by decide +kernel
theorem dX8_many_145 : decode cX8_many 145 = .ok (.getfield 115, 3) := by decide +kernel
theorem dX8_many_148 : decode cX8_many 148 = .ok (.getfield 122, 3) := by decide +kernel
theorem dX8_many_151 : decode cX8_many 151 = .ok (.ireturn, 1) := by decide +kernel
theorem dX8_many_152 : decode cX8_many 152 = .ok (.aload_n 0, 1) := by decide +kernel
theorem dX8_many_153 : decode cX8_many 153 = .ok (.getfield 20, 3) := by decide +kernel
theorem dX8_many_156 : decode cX8_many 156 = .ok (.getfield 245, 3) := by decide +kernel
theorem dX8_many_159 : decode cX8_many 159 = .ok (.ireturn, 1) := by decide +kernel
theorem dX8_many_160 : decode cX8_many 160 = .ok (.bipush (-2), 2) := by decide +kernel
theorem dX8_many_162 : decode cX8_many 162 = .ok (.ireturn, 1) := by decide +kernel
theorem dX8_image_0 : decode cX8_image 0 = .ok (.iload_n 1, 1) := by decide +kernel
theorem dX8_image_1 : decode cX8_image 1 = .ok (.ifCond .lt 8, 3) := by decide +kernel
theorem dX8_image_4 : decode cX8_image 4 = .ok (.iload_n 1, 1) := by decide +kernel
theorem dX8_image_5 : decode cX8_image 5 = .ok (.iconst 3, 1) := by decide +kernel
theorem dX8_image_6 : decode cX8_image 6 = .ok (.if_icmp .lt 5, 3) := by decide +kernel
theorem dX8_image_9 : decode cX8_image 9 = .ok (.iconst 0, 1) := by decide +kernel
theorem dX8_image_10 : decode cX8_image 10 = .ok (.ireturn, 1) := by decide +kernel
theorem dX8_image_11 : decode cX8_image 11 = .ok (.aload_n 0, 1) := by decide +kernel
theorem dX8_image_12 : decode cX8_image 12 = .ok (.getfield 30, 3) := by decide +kernel
theorem dX8_image_15 : decode cX8_image 15 = .ok (.iload_n 1, 1) := by decide +kernel
theorem dX8_image_16 : decode cX8_image 16 = .ok (.aaload, 1) := by decide +kernel
theorem dX8_image_17 : decode cX8_image 17 = .ok (.aload_n 0, 1) := by decide +kernel
theorem dX8_image_18 : decode cX8_image 18 = .ok (.getfield 20, 3) := by decide +kernel
theorem dX8_image_21 : decode cX8_image 21 = .ok (.invokevirtual 248, 3) := by decide +kernel
theorem dX8_image_24 : decode cX8_image 24 = .ok (.aload_n 0, 1) := by decide +kernel
theorem dX8_image_25 : decode cX8_image 25 = .ok (.getfield 34, 3) := by decide +kernel
theorem dX8_image_28 : decode cX8_image 28 = .ok (.iload_n 1, 1) := by decide +kernel
theorem dX8_image_29 : decode cX8_image 29 = .ok (.iconst 1, 1) := by decide +kernel
theorem dX8_image_30 : decode cX8_image 30 = .ok (.bastore, 1) := by decide +kernel
theorem dX8_image_31 : decode cX8_image 31 = .ok (.iconst 1, 1) := by decide +kernel
theorem dX8_image_32 : decode cX8_image 32 = .ok (.ireturn, 1) := by decide +kernel
theorem dX8_again_0 : decode cX8_again 0 = .ok (.iload_n 1, 1) := by decide +kernel
theorem dX8_again_1 : decode cX8_again 1 = .ok (.ifCond .lt 17, 3) := by decide +kernel
theorem dX8_again_4 : decode cX8_again 4 = .ok (.iload_n 1, 1) := by decide +kernel
theorem dX8_again_5 : decode cX8_again 5 = .ok (.iconst 3, 1) := by decide +kernel
theorem dX8_again_6 : decode cX8_again 6 = .ok (.if_icmp .ge 12, 3) := by decide +kernel
theorem dX8_again_9 : decode cX8_again 9 = .ok (.aload_n 0, 1) := by decide +kernel
theorem dX8_again_10 : decode cX8_again 10 = .ok (.getfield 34, 3) := by decide +kernel
theorem dX8_again_13 : decode cX8_again 13 = .ok (.iload_n 1, 1) := by decide +kernel
theorem dX8_again_14 : decode cX8_again 14 = .ok (.baload, 1) := by decide +kernel
theorem dX8_again_15 : decode cX8_again 15 = .ok (.ifCond .ne 5, 3) := by decide +kernel
theorem dX8_again_18 : decode cX8_again 18 = .ok (.iconst 0, 1) := by decide +kernel
theorem dX8_again_19 : decode cX8_again 19 = .ok (.ireturn, 1) := by decide +kernel
theorem dX8_again_20 : decode cX8_again 20 = .ok (.aload_n 0, 1) := by decide +kernel
theorem dX8_again_21 : decode cX8_again 21 = .ok (.getfield 20, 3) := by decide +kernel
theorem dX8_again_24 : decode cX8_again 24 = .ok (.aload_n 0, 1) := by decide +kernel
theorem dX8_again_25 : decode cX8_again 25 = .ok (.getfield 30, 3) := by decide +kernel
theorem dX8_again_28 : decode cX8_again 28 = .ok (.iload_n 1, 1) := by decide +kernel
theorem dX8_again_29 : decode cX8_again 29 = .ok (.aaload, 1) := by decide +kernel
theorem dX8_again_30 : decode cX8_again 30 = .ok (.invokevirtual 248, 3) := by decide +kernel
theorem dX8_again_33 : decode cX8_again 33 = .ok (.aload_n 0, 1) := by decide +kernel
theorem dX8_again_34 : decode cX8_again 34 = .ok (.getfield 10, 3) := by decide +kernel
theorem dX8_again_37 : decode cX8_again 37 = .ok (.invokevirtual 52, 3) := by decide +kernel
theorem dX8_again_40 : decode cX8_again 40 = .ok (.iconst 1, 1) := by decide +kernel
theorem dX8_again_41 : decode cX8_again 41 = .ok (.ireturn, 1) := by decide +kernel
theorem dX8_becomes_0 : decode cX8_becomes 0 = .ok (.iload_n 1, 1) := by decide +kernel
theorem dX8_becomes_1 : decode cX8_becomes 1 = .ok (.iconst (-1), 1) := by decide +kernel
theorem dX8_becomes_2 : decode cX8_becomes 2 = .ok (.if_icmp .ne 5, 3) := by decide +kernel
theorem dX8_becomes_5 : decode cX8_becomes 5 = .ok (.iconst 0, 1) := by decide +kernel
theorem dX8_becomes_6 : decode cX8_becomes 6 = .ok (.ireturn, 1) := by decide +kernel
theorem dX8_becomes_7 : decode cX8_becomes 7 = .ok (.aload_n 0, 1) := by decide +kernel
theorem dX8_becomes_8 : decode cX8_becomes 8 = .ok (.getfield 20, 3) := by decide +kernel
theorem dX8_becomes_11 : decode cX8_becomes 11 = .ok (.iload_n 1, 1) := by decide +kernel
theorem dX8_becomes_12 : decode cX8_becomes 12 = .ok (.i2l, 1) := by decide +kernel
theorem dX8_becomes_13 : decode cX8_becomes 13 = .ok (.putfield 71, 3) := by decide +kernel
theorem dX8_becomes_16 : decode cX8_becomes 16 = .ok (.iconst 1, 1) := by decide +kernel
theorem dX8_becomes_17 : decode cX8_becomes 17 = .ok (.ireturn, 1) := by decide +kernel
theorem dX8_nthBit_0 : decode cX8_nthBit 0 = .ok (.iload_n 1, 1) := by decide +kernel
theorem dX8_nthBit_1 : decode cX8_nthBit 1 = .ok (.istore_n 2, 1) := by decide +kernel
theorem dX8_nthBit_2 : decode cX8_nthBit 2 = .ok (.iconst 0, 1) := by decide +kernel
theorem dX8_nthBit_3 : decode cX8_nthBit 3 = .ok (.istore_n 3, 1) := by decide +kernel
theorem dX8_nthBit_4 : decode cX8_nthBit 4 = .ok (.iload_n 3, 1) := by decide +kernel
theorem dX8_nthBit_5 : decode cX8_nthBit 5 = .ok (.bipush 8, 2) := by decide +kernel
theorem dX8_nthBit_7 : decode cX8_nthBit 7 = .ok (.if_icmp .ge 26, 3) := by decide +kernel
theorem dX8_nthBit_10 : decode cX8_nthBit 10 = .ok (.iload_n 0, 1) := by decide +kernel
theorem dX8_nthBit_11 : decode cX8_nthBit 11 = .ok (.iload_n 3, 1) := by decide +kernel
theorem dX8_nthBit_12 : decode cX8_nthBit 12 = .ok (.ishr, 1) := by decide +kernel
theorem dX8_nthBit_13 : decode cX8_nthBit 13 = .ok (.iconst 1, 1) := by decide +kernel
theorem dX8_nthBit_14 : decode cX8_nthBit 14 = .ok (.iand, 1) := by decide +kernel
theorem dX8_nthBit_15 : decode cX8_nthBit 15 = .ok (.ifCond .eq 12, 3) := by decide +kernel
theorem dX8_nthBit_18 : decode cX8_nthBit 18 = .ok (.iload_n 2, 1) := by decide +kernel
theorem dX8_nthBit_19 : decode cX8_nthBit 19 = .ok (.ifCond .ne 5, 3) := by decide +kernel
theorem dX8_nthBit_22 : decode cX8_nthBit 22 = .ok (.iload_n 3, 1) := by decide +kernel
theorem dX8_nthBit_23 : decode cX8_nthBit 23 = .ok (.ireturn, 1) := by decide +kernel
theorem dX8_nthBit_24 : decode cX8_nthBit 24 = .ok (.iinc 2 (-1), 3) := by decide +kernel
theorem dX8_nthBit_27 : decode cX8_nthBit 27 = .ok (.iinc 3 1, 3) := by decide +kernel
theorem dX8_nthBit_30 : decode cX8_nthBit 30 = .ok (.goto (-26), 3) := by decide +kernel
theorem dX8_nthBit_33 : decode cX8_nthBit 33 = .ok (.iconst (-1), 1) := by decide +kernel
theorem dX8_nthBit_34 : decode cX8_nthBit 34 = .ok (.ireturn, 1) := by decide +kernel
theorem dJ6_bitCount_0f7a4_0 : decode cJ6_bitCount_0f7a4 0 = .ok (.iload_n 0, 1) := by decide +kernel
theorem dJ6_bitCount_0f7a4_1 : decode cJ6_bitCount_0f7a4 1 = .ok (.iload_n 0, 1) := by decide +kernel
theorem dJ6_bitCount_0f7a4_2 : decode cJ6_bitCount_0f7a4 2 = .ok (.iconst 1, 1) := by decide +kernel
theorem dJ6_bitCount_0f7a4_3 : decode cJ6_bitCount_0f7a4 3 = .ok (.iushr, 1) := by decide +kernel
theorem dJ6_bitCount_0f7a4_4 : decode cJ6_bitCount_0f7a4 4 = .ok (.ldc_w 265, 3) := by decide +kernel
theorem dJ6_bitCount_0f7a4_7 : decode cJ6_bitCount_0f7a4 7 = .ok (.iand, 1) := by decide +kernel
theorem dJ6_bitCount_0f7a4_8 : decode cJ6_bitCount_0f7a4 8 = .ok (.isub, 1) := by decide +kernel
theorem dJ6_bitCount_0f7a4_9 : decode cJ6_bitCount_0f7a4 9 = .ok (.istore_n 0, 1) := by decide +kernel
theorem dJ6_bitCount_0f7a4_10 : decode cJ6_bitCount_0f7a4 10 = .ok (.iload_n 0, 1) := by decide +kernel
theorem dJ6_bitCount_0f7a4_11 : decode cJ6_bitCount_0f7a4 11 = .ok (.ldc_w 266, 3) := by decide +kernel
theorem dJ6_bitCount_0f7a4_14 : decode cJ6_bitCount_0f7a4 14 = .ok (.iand, 1) := by decide +kernel
theorem dJ6_bitCount_0f7a4_15 : decode cJ6_bitCount_0f7a4 15 = .ok (.iload_n 0, 1) := by decide +kernel
theorem dJ6_bitCount_0f7a4_16 : decode cJ6_bitCount_0f7a4 16 = .ok (.iconst 2, 1) := by decide +kernel
theorem dJ6_bitCount_0f7a4_17 : decode cJ6_bitCount_0f7a4 17 = .ok (.iushr, 1) := by decide +kernel
theorem dJ6_bitCount_0f7a4_18 : decode cJ6_bitCount_0f7a4 18 = .ok (.ldc_w 266, 3) := by decide +kernel
theorem dJ6_bitCount_0f7a4_21 : decode cJ6_bitCount_0f7a4 21 = .ok (.iand, 1) := by decide +kernel
theorem dJ6_bitCount_0f7a4_22 : decode cJ6_bitCount_0f7a4 22 = .ok (.iadd, 1) := by decide +kernel
theorem dJ6_bitCount_0f7a4_23 : decode cJ6_bitCount_0f7a4 23 = .ok (.istore_n 0, 1) := by decide +kernel
theorem dJ6_bitCount_0f7a4_24 : decode cJ6_bitCount_0f7a4 24 = .ok (.iload_n 0, 1) := by decide +kernel
theorem dJ6_bitCount_0f7a4_25 : decode cJ6_bitCount_0f7a4 25 = .ok (.iload_n 0, 1) := by decide +kernel
theorem dJ6_bitCount_0f7a4_26 : decode cJ6_bitCount_0f7a4 26 = .ok (.iconst 4, 1) := by decide +kernel
theorem dJ6_bitCount_0f7a4_27 : decode cJ6_bitCount_0f7a4 27 = .ok (.iushr, 1) := by decide +kernel
theorem dJ6_bitCount_0f7a4_28 : decode cJ6_bitCount_0f7a4 28 = .ok (.iadd, 1) := by decide +kernel
theorem dJ6_bitCount_0f7a4_29 : decode cJ6_bitCount_0f7a4 29 = .ok (.ldc_w 267, 3) := by decide +kernel
theorem dJ6_bitCount_0f7a4_32 : decode cJ6_bitCount_0f7a4 32 = .ok (.iand, 1) := by decide +kernel
theorem dJ6_bitCount_0f7a4_33 : decode cJ6_bitCount_0f7a4 33 = .ok (.istore_n 0, 1) := by decide +kernel
theorem dJ6_bitCount_0f7a4_34 : decode cJ6_bitCount_0f7a4 34 = .ok (.iload_n 0, 1) := by decide +kernel
theorem dJ6_bitCount_0f7a4_35 : decode cJ6_bitCount_0f7a4 35 = .ok (.iload_n 0, 1) := by decide +kernel
theorem dJ6_bitCount_0f7a4_36 : decode cJ6_bitCount_0f7a4 36 = .ok (.bipush 8, 2) := by decide +kernel
theorem dJ6_bitCount_0f7a4_38 : decode cJ6_bitCount_0f7a4 38 = .ok (.iushr, 1) := by decide +kernel
theorem dJ6_bitCount_0f7a4_39 : decode cJ6_bitCount_0f7a4 39 = .ok (.iadd, 1) := by decide +kernel
theorem dJ6_bitCount_0f7a4_40 : decode cJ6_bitCount_0f7a4 40 = .ok (.istore_n 0, 1) := by decide +kernel
theorem dJ6_bitCount_0f7a4_41 : decode cJ6_bitCount_0f7a4 41 = .ok (.iload_n 0, 1) := by decide +kernel
theorem dJ6_bitCount_0f7a4_42 : decode cJ6_bitCount_0f7a4 42 = .ok (.iload_n 0, 1) := by decide +kernel
theorem dJ6_bitCount_0f7a4_43 : decode cJ6_bitCount_0f7a4 43 = .ok (.bipush 16, 2) := by decide +kernel
theorem dJ6_bitCount_0f7a4_45 : decode cJ6_bitCount_0f7a4 45 = .ok (.iushr, 1) := by decide +kernel
theorem dJ6_bitCount_0f7a4_46 : decode cJ6_bitCount_0f7a4 46 = .ok (.iadd, 1) := by decide +kernel
theorem dJ6_bitCount_0f7a4_47 : decode cJ6_bitCount_0f7a4 47 = .ok (.istore_n 0, 1) := by decide +kernel
theorem dJ6_bitCount_0f7a4_48 : decode cJ6_bitCount_0f7a4 48 = .ok (.iload_n 0, 1) := by decide +kernel
theorem dJ6_bitCount_0f7a4_49 : decode cJ6_bitCount_0f7a4 49 = .ok (.bipush 63, 2) := by decide +kernel
theorem dJ6_bitCount_0f7a4_51 : decode cJ6_bitCount_0f7a4 51 = .ok (.iand, 1) := by decide +kernel
theorem dJ6_bitCount_0f7a4_52 : decode cJ6_bitCount_0f7a4 52 = .ok (.ireturn, 1) := by decide +kernel
theorem dJ13_bitCount_95d88_0 : decode cJ13_bitCount_95d88 0 = .ok (.lload_n 0, 1) := by decide +kernel
theorem dJ13_bitCount_95d88_1 : decode cJ13_bitCount_95d88 1 = .ok (.lload_n 0, 1) := by decide +kernel
theorem dJ13_bitCount_95d88_2 : decode cJ13_bitCount_95d88 2 = .ok (.iconst 1, 1) := by decide +kernel
theorem dJ13_bitCount_95d88_3 : decode cJ13_bitCount_95d88 3 = .ok (.lushr, 1) := by decide +kernel
theorem dJ13_bitCount_95d88_4 : decode cJ13_bitCount_95d88 4 = .ok (.ldc2_w 314, 3) := by decide +kernel
theorem dJ13_bitCount_95d88_7 : decode cJ13_bitCount_95d88 7 = .ok (.land, 1) := by decide +kernel
theorem dJ13_bitCount_95d88_8 : decode cJ13_bitCount_95d88 8 = .ok (.lsub, 1) := by decide +kernel
theorem dJ13_bitCount_95d88_9 : decode cJ13_bitCount_95d88 9 = .ok (.lstore_n 0, 1) := by decide +kernel
theorem dJ13_bitCount_95d88_10 : decode cJ13_bitCount_95d88 10 = .ok (.lload_n 0, 1) := by decide +kernel
theorem dJ13_bitCount_95d88_11 : decode cJ13_bitCount_95d88 11 = .ok (.ldc2_w 316, 3) := by decide +kernel
theorem dJ13_bitCount_95d88_14 : decode cJ13_bitCount_95d88 14 = .ok (.land, 1) := by decide +kernel
theorem dJ13_bitCount_95d88_15 : decode cJ13_bitCount_95d88 15 = .ok (.lload_n 0, 1) := by decide +kernel
theorem dJ13_bitCount_95d88_16 : decode cJ13_bitCount_95d88 16 = .ok (.iconst 2, 1) := by decide +kernel
theorem dJ13_bitCount_95d88_17 : decode cJ13_bitCount_95d88 17 = .ok (.lushr, 1) := by decide +kernel
theorem dJ13_bitCount_95d88_18 : decode cJ13_bitCount_95d88 18 = .ok (.ldc2_w 316, 3) := by decide +kernel
theorem dJ13_bitCount_95d88_21 : decode cJ13_bitCount_95d88 21 = .ok (.land, 1) := by decide +kernel
theorem dJ13_bitCount_95d88_22 : decode cJ13_bitCount_95d88 22 = .ok (.ladd, 1) := by decide +kernel
theorem dJ13_bitCount_95d88_23 : decode cJ13_bitCount_95d88 23 = .ok (.lstore_n 0, 1) := by decide +kernel
theorem dJ13_bitCount_95d88_24 : decode cJ13_bitCount_95d88 24 = .ok (.lload_n 0, 1) := by decide +kernel
theorem dJ13_bitCount_95d88_25 : decode cJ13_bitCount_95d88 25 = .ok (.lload_n 0, 1) := by decide +kernel
theorem dJ13_bitCount_95d88_26 : decode cJ13_bitCount_95d88 26 = .ok (.iconst 4, 1) := by decide +kernel
theorem dJ13_bitCount_95d88_27 : decode cJ13_bitCount_95d88 27 = .ok (.lushr, 1) := by decide +kernel
theorem dJ13_bitCount_95d88_28 : decode cJ13_bitCount_95d88 28 = .ok (.ladd, 1) := by decide +kernel
theorem dJ13_bitCount_95d88_29 : decode cJ13_bitCount_95d88 29 = .ok (.ldc2_w 318, 3) := by decide +kernel
theorem dJ13_bitCount_95d88_32 : decode cJ13_bitCount_95d88 32 = .ok (.land, 1) := by decide +kernel
theorem dJ13_bitCount_95d88_33 : decode cJ13_bitCount_95d88 33 = .ok (.lstore_n 0, 1) := by decide +kernel
theorem dJ13_bitCount_95d88_34 : decode cJ13_bitCount_95d88 34 = .ok (.lload_n 0, 1) := by decide +kernel
theorem dJ13_bitCount_95d88_35 : decode cJ13_bitCount_95d88 35 = .ok (.lload_n 0, 1) := by decide +kernel
theorem dJ13_bitCount_95d88_36 : decode cJ13_bitCount_95d88 36 = .ok (.bipush 8, 2) := by decide +kernel
theorem dJ13_bitCount_95d88_38 : decode cJ13_bitCount_95d88 38 = .ok (.lushr, 1) := by decide +kernel
theorem dJ13_bitCount_95d88_39 : decode cJ13_bitCount_95d88 39 = .ok (.ladd, 1) := by decide +kernel
theorem dJ13_bitCount_95d88_40 : decode cJ13_bitCount_95d88 40 = .ok (.lstore_n 0, 1) := by decide +kernel
theorem dJ13_bitCount_95d88_41 : decode cJ13_bitCount_95d88 41 = .ok (.lload_n 0, 1) := by decide +kernel
theorem dJ13_bitCount_95d88_42 : decode cJ13_bitCount_95d88 42 = .ok (.lload_n 0, 1) := by decide +kernel
theorem dJ13_bitCount_95d88_43 : decode cJ13_bitCount_95d88 43 = .ok (.bipush 16, 2) := by decide +kernel
theorem dJ13_bitCount_95d88_45 : decode cJ13_bitCount_95d88 45 = .ok (.lushr, 1) := by decide +kernel
theorem dJ13_bitCount_95d88_46 : decode cJ13_bitCount_95d88 46 = .ok (.ladd, 1) := by decide +kernel
theorem dJ13_bitCount_95d88_47 : decode cJ13_bitCount_95d88 47 = .ok (.lstore_n 0, 1) := by decide +kernel
theorem dJ13_bitCount_95d88_48 : decode cJ13_bitCount_95d88 48 = .ok (.lload_n 0, 1) := by decide +kernel
theorem dJ13_bitCount_95d88_49 : decode cJ13_bitCount_95d88 49 = .ok (.lload_n 0, 1) := by decide +kernel
theorem dJ13_bitCount_95d88_50 : decode cJ13_bitCount_95d88 50 = .ok (.bipush 32, 2) := by decide +kernel
theorem dJ13_bitCount_95d88_52 : decode cJ13_bitCount_95d88 52 = .ok (.lushr, 1) := by decide +kernel
theorem dJ13_bitCount_95d88_53 : decode cJ13_bitCount_95d88 53 = .ok (.ladd, 1) := by decide +kernel
theorem dJ13_bitCount_95d88_54 : decode cJ13_bitCount_95d88 54 = .ok (.lstore_n 0, 1) := by decide +kernel
theorem dJ13_bitCount_95d88_55 : decode cJ13_bitCount_95d88 55 = .ok (.lload_n 0, 1) := by decide +kernel
theorem dJ13_bitCount_95d88_56 : decode cJ13_bitCount_95d88 56 = .ok (.l2i, 1) := by decide +kernel
theorem dJ13_bitCount_95d88_57 : decode cJ13_bitCount_95d88 57 = .ok (.bipush 127, 2) := by decide +kernel
theorem dJ13_bitCount_95d88_59 : decode cJ13_bitCount_95d88 59 = .ok (.iand, 1) := by decide +kernel
theorem dJ13_bitCount_95d88_60 : decode cJ13_bitCount_95d88 60 = .ok (.ireturn, 1) := by decide +kernel
theorem dJ9_max_7cf53_0 : decode cJ9_max_7cf53 0 = .ok (.iload_n 0, 1) := by decide +kernel
theorem dJ9_max_7cf53_1 : decode cJ9_max_7cf53 1 = .ok (.iload_n 1, 1) := by decide +kernel
theorem dJ9_max_7cf53_2 : decode cJ9_max_7cf53 2 = .ok (.if_icmp .lt 7, 3) := by decide +kernel
theorem dJ9_max_7cf53_5 : decode cJ9_max_7cf53 5 = .ok (.iload_n 0, 1) := by decide +kernel
theorem dJ9_max_7cf53_6 : decode cJ9_max_7cf53 6 = .ok (.goto 4, 3) := by decide +kernel
theorem dJ9_max_7cf53_9 : decode cJ9_max_7cf53 9 = .ok (.iload_n 1, 1) := by decide +kernel
theorem dJ9_max_7cf53_10 : decode cJ9_max_7cf53 10 = .ok (.ireturn, 1) := by decide +kernel
theorem dJ9_min_7cf53_0 : decode cJ9_min_7cf53 0 = .ok (.iload_n 0, 1) := by decide +kernel
theorem dJ9_min_7cf53_1 : decode cJ9_min_7cf53 1 = .ok (.iload_n 1, 1) := by decide +kernel
theorem dJ9_min_7cf53_2 : decode cJ9_min_7cf53 2 = .ok (.if_icmp .gt 7, 3) := by decide +kernel
theorem dJ9_min_7cf53_5 : decode cJ9_min_7cf53 5 = .ok (.iload_n 0, 1) := by decide +kernel
theorem dJ9_min_7cf53_6 : decode cJ9_min_7cf53 6 = .ok (.goto 4, 3) := by decide +kernel
theorem dJ9_min_7cf53_9 : decode cJ9_min_7cf53 9 = .ok (.iload_n 1, 1) := by decide +kernel
theorem dJ9_min_7cf53_10 : decode cJ9_min_7cf53 10 = .ok (.ireturn, 1) := by decide +kernel
theorem dJ0_length_8abf5_0 : decode cJ0_length_8abf5 0 = .ok (.aload_n 0, 1) := by decide +kernel
theorem dJ0_length_8abf5_1 : decode cJ0_length_8abf5 1 = .ok (.getfield 9, 3) := by decide +kernel
theorem dJ0_length_8abf5_4 : decode cJ0_length_8abf5 4 = .ok (.arraylength, 1) := by decide +kernel
theorem dJ0_length_8abf5_5 : decode cJ0_length_8abf5 5 = .ok (.aload_n 0, 1) := by decide +kernel
theorem dJ0_length_8abf5_6 : decode cJ0_length_8abf5 6 = .ok (.invokevirtual 335, 3) := by decide +kernel
theorem dJ0_length_8abf5_9 : decode cJ0_length_8abf5 9 = .ok (.ishr, 1) := by decide +kernel
theorem dJ0_length_8abf5_10 : decode cJ0_length_8abf5 10 = .ok (.ireturn, 1) := by decide +kernel
theorem dJ0_charAt_5068e_0 : decode cJ0_charAt_5068e 0 = .ok (.aload_n 0, 1) := by decide +kernel
theorem dJ0_charAt_5068e_1 : decode cJ0_charAt_5068e 1 = .ok (.invokevirtual 492, 3) := by decide +kernel
theorem dJ0_charAt_5068e_4 : decode cJ0_charAt_5068e 4 = .ok (.ifCond .eq 12, 3) := by decide +kernel
theorem dJ0_charAt_5068e_7 : decode cJ0_charAt_5068e 7 = .ok (.aload_n 0, 1) := by decide +kernel
theorem dJ0_charAt_5068e_8 : decode cJ0_charAt_5068e 8 = .ok (.getfield 9, 3) := by decide +kernel
theorem dJ0_charAt_5068e_11 : decode cJ0_charAt_5068e 11 = .ok (.iload_n 1, 1) := by decide +kernel
theorem dJ0_charAt_5068e_12 : decode cJ0_charAt_5068e 12 = .ok (.invokestatic 495, 3) := by decide +kernel
theorem dJ0_charAt_5068e_15 : decode cJ0_charAt_5068e 15 = .ok (.ireturn, 1) := by decide +kernel
theorem dJ0_charAt_5068e_16 : decode cJ0_charAt_5068e 16 = .ok (.aload_n 0, 1) := by decide +kernel
theorem dJ0_charAt_5068e_17 : decode cJ0_charAt_5068e 17 = .ok (.getfield 9, 3) := by decide +kernel
theorem dJ0_charAt_5068e_20 : decode cJ0_charAt_5068e 20 = .ok (.iload_n 1, 1) := by decide +kernel
theorem dJ0_charAt_5068e_21 : decode cJ0_charAt_5068e 21 = .ok (.invokestatic 498, 3) := by decide +kernel
theorem dJ0_charAt_5068e_24 : decode cJ0_charAt_5068e 24 = .ok (.ireturn, 1) := by decide +kernel
theorem dJ0_coder_7d493_0 : decode cJ0_coder_7d493 0 = .ok (.getstatic 38, 3) := by decide +kernel
theorem dJ0_coder_7d493_3 : decode cJ0_coder_7d493 3 = .ok (.ifCond .eq 10, 3) := by decide +kernel
theorem dJ0_coder_7d493_6 : decode cJ0_coder_7d493 6 = .ok (.aload_n 0, 1) := by decide +kernel
theorem dJ0_coder_7d493_7 : decode cJ0_coder_7d493 7 = .ok (.getfield 15, 3) := by decide +kernel
theorem dJ0_coder_7d493_10 : decode cJ0_coder_7d493 10 = .ok (.goto 4, 3) := by decide +kernel
theorem dJ0_coder_7d493_13 : decode cJ0_coder_7d493 13 = .ok (.iconst 1, 1) := by decide +kernel
theorem dJ0_coder_7d493_14 : decode cJ0_coder_7d493 14 = .ok (.ireturn, 1) := by decide +kernel
theorem dJ0_isLatin1_aae02_0 : decode cJ0_isLatin1_aae02 0 = .ok (.getstatic 38, 3) := by decide +kernel
theorem dJ0_isLatin1_aae02_3 : decode cJ0_isLatin1_aae02 3 = .ok (.ifCond .eq 14, 3) := by decide +kernel
theorem dJ0_isLatin1_aae02_6 : decode cJ0_isLatin1_aae02 6 = .ok (.aload_n 0, 1) := by decide +kernel
theorem dJ0_isLatin1_aae02_7 : decode cJ0_isLatin1_aae02 7 = .ok (.getfield 15, 3) := by decide +kernel
theorem dJ0_isLatin1_aae02_10 : decode cJ0_isLatin1_aae02 10 = .ok (.ifCond .ne 7, 3) := by decide +kernel
theorem dJ0_isLatin1_aae02_13 : decode cJ0_isLatin1_aae02 13 = .ok (.iconst 1, 1) := by decide +kernel
theorem dJ0_isLatin1_aae02_14 : decode cJ0_isLatin1_aae02 14 = .ok (.goto 4, 3) := by decide +kernel
theorem dJ0_isLatin1_aae02_17 : decode cJ0_isLatin1_aae02 17 = .ok (.iconst 0, 1) := by decide +kernel
theorem dJ0_isLatin1_aae02_18 : decode cJ0_isLatin1_aae02 18 = .ok (.ireturn, 1) := by decide +kernel
theorem dJ0_checkIndex_df160_0 : decode cJ0_checkIndex_df160 0 = .ok (.iload_n 0, 1) := by decide +kernel
theorem dJ0_checkIndex_df160_1 : decode cJ0_checkIndex_df160 1 = .ok (.iload_n 1, 1) := by decide +kernel
theorem dJ0_checkIndex_df160_2 : decode cJ0_checkIndex_df160 2 = .ok (.getstatic 1053, 3) := by decide +kernel
theorem dJ0_checkIndex_df160_5 : decode cJ0_checkIndex_df160 5 = .ok (.invokestatic 1059, 3) := by decide +kernel
theorem dJ0_checkIndex_df160_8 : decode cJ0_checkIndex_df160 8 = .ok (.pop, 1) := by decide +kernel
theorem dJ0_checkIndex_df160_9 : decode cJ0_checkIndex_df160 9 = .ok (.return_, 1) := by decide +kernel
theorem dJ1_charAt_3b067_0 : decode cJ1_charAt_3b067 0 = .ok (.iload_n 1, 1) := by decide +kernel
theorem dJ1_charAt_3b067_1 : decode cJ1_charAt_3b067 1 = .ok (.aload_n 0, 1) := by decide +kernel
theorem dJ1_charAt_3b067_2 : decode cJ1_charAt_3b067 2 = .ok (.arraylength, 1) := by decide +kernel
theorem dJ1_charAt_3b067_3 : decode cJ1_charAt_3b067 3 = .ok (.invokestatic 9, 3) := by decide +kernel
theorem dJ1_charAt_3b067_6 : decode cJ1_charAt_3b067 6 = .ok (.aload_n 0, 1) := by decide +kernel
theorem dJ1_charAt_3b067_7 : decode cJ1_charAt_3b067 7 = .ok (.iload_n 1, 1) := by decide +kernel
theorem dJ1_charAt_3b067_8 : decode cJ1_charAt_3b067 8 = .ok (.baload, 1) := by decide +kernel
theorem dJ1_charAt_3b067_9 : decode cJ1_charAt_3b067 9 = .ok (.sipush 255, 3) := by decide +kernel
theorem dJ1_charAt_3b067_12 : decode cJ1_charAt_3b067 12 = .ok (.iand, 1) := by decide +kernel
theorem dJ1_charAt_3b067_13 : decode cJ1_charAt_3b067 13 = .ok (.i2c, 1) := by decide +kernel
theorem dJ1_charAt_3b067_14 : decode cJ1_charAt_3b067 14 = .ok (.ireturn, 1) := by decide +kernel
theorem dJ2_getChar_3b067_0 : decode cJ2_getChar_3b067 0 = .ok (.getstatic 44, 3) := by decide +kernel
theorem dJ2_getChar_3b067_3 : decode cJ2_getChar_3b067 3 = .ok (.ifCond .ne 25, 3) := by decide +kernel
theorem dJ2_getChar_3b067_6 : decode cJ2_getChar_3b067 6 = .ok (.iload_n 1, 1) := by decide +kernel
theorem dJ2_getChar_3b067_7 : decode cJ2_getChar_3b067 7 = .ok (.ifCond .lt 11, 3) := by decide +kernel
theorem dJ2_getChar_3b067_10 : decode cJ2_getChar_3b067 10 = .ok (.iload_n 1, 1) := by decide +kernel
theorem dJ2_getChar_3b067_11 : decode cJ2_getChar_3b067 11 = .ok (.aload_n 0, 1) := by decide +kernel
theorem dJ2_getChar_3b067_12 : decode cJ2_getChar_3b067 12 = .ok (.invokestatic 48, 3) := by decide +kernel
theorem dJ2_getChar_3b067_15 : decode cJ2_getChar_3b067 15 = .ok (.if_icmp .lt 13, 3) := by decide +kernel
theorem dJ2_getChar_3b067_18 : decode cJ2_getChar_3b067 18 = .ok (.new 52, 3) := by decide +kernel
theorem dJ2_getChar_3b067_21 : decode cJ2_getChar_3b067 21 = .ok (.dup, 1) := by decide +kernel
theorem dJ2_getChar_3b067_22 : decode cJ2_getChar_3b067 22 = .ok (.ldc 54, 2) := by decide +kernel
theorem dJ2_getChar_3b067_24 : decode cJ2_getChar_3b067 24 = .ok (.invokespecial 56, 3) := by decide +kernel
theorem dJ2_getChar_3b067_27 : decode cJ2_getChar_3b067 27 = .ok (.athrow, 1) := by decide +kernel
theorem dJ2_getChar_3b067_28 : decode cJ2_getChar_3b067 28 = .ok (.iload_n 1, 1) := by decide +kernel
theorem dJ2_getChar_3b067_29 : decode cJ2_getChar_3b067 29 = .ok (.iconst 1, 1) := by decide +kernel
theorem dJ2_getChar_3b067_30 : decode cJ2_getChar_3b067 30 = .ok (.ishl, 1) := by decide +kernel
theorem dJ2_getChar_3b067_31 : decode cJ2_getChar_3b067 31 = .ok (.istore_n 1, 1) := by decide +kernel
theorem dJ2_getChar_3b067_32 : decode cJ2_getChar_3b067 32 = .ok (.aload_n 0, 1) := by decide +kernel
theorem dJ2_getChar_3b067_33 : decode cJ2_getChar_3b067 33 = .ok (.iload_n 1, 1) := by decide +kernel
theorem dJ2_getChar_3b067_34 : decode cJ2_getChar_3b067 34 = .ok (.iinc 1 1, 3) := by decide +kernel
theorem dJ2_getChar_3b067_37 : decode cJ2_getChar_3b067 37 = .ok (.baload, 1) := by decide +kernel
theorem dJ2_getChar_3b067_38 : decode cJ2_getChar_3b067 38 = .ok (.sipush 255, 3) := by decide +kernel
theorem dJ2_getChar_3b067_41 : decode cJ2_getChar_3b067 41 = .ok (.iand, 1) := by decide +kernel
theorem dJ2_getChar_3b067_42 : decode cJ2_getChar_3b067 42 = .ok (.getstatic 59, 3) := by decide +kernel
theorem dJ2_getChar_3b067_45 : decode cJ2_getChar_3b067 45 = .ok (.ishl, 1) := by decide +kernel
theorem dJ2_getChar_3b067_46 : decode cJ2_getChar_3b067 46 = .ok (.aload_n 0, 1) := by decide +kernel
theorem dJ2_getChar_3b067_47 : decode cJ2_getChar_3b067 47 = .ok (.iload_n 1, 1) := by decide +kernel
theorem dJ2_getChar_3b067_48 : decode cJ2_getChar_3b067 48 = .ok (.baload, 1) := by decide +kernel
theorem dJ2_getChar_3b067_49 : decode cJ2_getChar_3b067 49 = .ok (.sipush 255, 3) := by decide +kernel
theorem dJ2_getChar_3b067_52 : decode cJ2_getChar_3b067 52 = .ok (.iand, 1) := by decide +kernel
theorem dJ2_getChar_3b067_53 : decode cJ2_getChar_3b067 53 = .ok (.getstatic 63, 3) := by decide +kernel
theorem dJ2_getChar_3b067_56 : decode cJ2_getChar_3b067 56 = .ok (.ishl, 1) := by decide +kernel
theorem dJ2_getChar_3b067_57 : decode cJ2_getChar_3b067 57 = .ok (.ior, 1) := by decide +kernel
theorem dJ2_getChar_3b067_58 : decode cJ2_getChar_3b067 58 = .ok (.i2c, 1) := by decide +kernel
theorem dJ2_getChar_3b067_59 : decode cJ2_getChar_3b067 59 = .ok (.ireturn, 1) := by decide +kernel
theorem dJ2_length_9d52b_0 : decode cJ2_length_9d52b 0 = .ok (.aload_n 0, 1) := by decide +kernel
theorem dJ2_length_9d52b_1 : decode cJ2_length_9d52b 1 = .ok (.arraylength, 1) := by decide +kernel
theorem dJ2_length_9d52b_2 : decode cJ2_length_9d52b 2 = .ok (.iconst 1, 1) := by decide +kernel
theorem dJ2_length_9d52b_3 : decode cJ2_length_9d52b 3 = .ok (.ishr, 1) := by decide +kernel
theorem dJ2_length_9d52b_4 : decode cJ2_length_9d52b 4 = .ok (.ireturn, 1) := by decide +kernel
theorem dJ2_charAt_3b067_0 : decode cJ2_charAt_3b067 0 = .ok (.iload_n 1, 1) := by decide +kernel
theorem dJ2_charAt_3b067_1 : decode cJ2_charAt_3b067 1 = .ok (.aload_n 0, 1) := by decide +kernel
theorem dJ2_charAt_3b067_2 : decode cJ2_charAt_3b067 2 = .ok (.invokestatic 67, 3) := by decide +kernel
theorem dJ2_charAt_3b067_5 : decode cJ2_charAt_3b067 5 = .ok (.aload_n 0, 1) := by decide +kernel
theorem dJ2_charAt_3b067_6 : decode cJ2_charAt_3b067 6 = .ok (.iload_n 1, 1) := by decide +kernel
theorem dJ2_charAt_3b067_7 : decode cJ2_charAt_3b067 7 = .ok (.invokestatic 71, 3) := by decide +kernel
theorem dJ2_charAt_3b067_10 : decode cJ2_charAt_3b067 10 = .ok (.ireturn, 1) := by decide +kernel
theorem dJ2_checkIndex_2214a_0 : decode cJ2_checkIndex_2214a 0 = .ok (.iload_n 0, 1) := by decide +kernel
theorem dJ2_checkIndex_2214a_1 : decode cJ2_checkIndex_2214a 1 = .ok (.aload_n 1, 1) := by decide +kernel
theorem dJ2_checkIndex_2214a_2 : decode cJ2_checkIndex_2214a 2 = .ok (.invokestatic 48, 3) := by decide +kernel
theorem dJ2_checkIndex_2214a_5 : decode cJ2_checkIndex_2214a 5 = .ok (.invokestatic 414, 3) := by decide +kernel
theorem dJ2_checkIndex_2214a_8 : decode cJ2_checkIndex_2214a 8 = .ok (.return_, 1) := by decide +kernel
theorem dJ3_checkIndex_8e157_0 : decode cJ3_checkIndex_8e157 0 = .ok (.iload_n 0, 1) := by decide +kernel
theorem dJ3_checkIndex_8e157_1 : decode cJ3_checkIndex_8e157 1 = .ok (.ifCond .lt 8, 3) := by decide +kernel
theorem dJ3_checkIndex_8e157_4 : decode cJ3_checkIndex_8e157 4 = .ok (.iload_n 0, 1) := by decide +kernel
theorem dJ3_checkIndex_8e157_5 : decode cJ3_checkIndex_8e157 5 = .ok (.iload_n 1, 1) := by decide +kernel
theorem dJ3_checkIndex_8e157_6 : decode cJ3_checkIndex_8e157 6 = .ok (.if_icmp .lt 10, 3) := by decide +kernel
theorem dJ3_checkIndex_8e157_9 : decode cJ3_checkIndex_8e157 9 = .ok (.aload_n 2, 1) := by decide +kernel
theorem dJ3_checkIndex_8e157_10 : decode cJ3_checkIndex_8e157 10 = .ok (.iload_n 0, 1) := by decide +kernel
theorem dJ3_checkIndex_8e157_11 : decode cJ3_checkIndex_8e157 11 = .ok (.iload_n 1, 1) := by decide +kernel
theorem dJ3_checkIndex_8e157_12 : decode cJ3_checkIndex_8e157 12 = .ok (.invokestatic 95, 3) := by decide +kernel
theorem dJ3_checkIndex_8e157_15 : decode cJ3_checkIndex_8e157 15 = .ok (.athrow, 1) := by decide +kernel
theorem dJ3_checkIndex_8e157_16 : decode cJ3_checkIndex_8e157 16 = .ok (.iload_n 0, 1) := by decide +kernel
theorem dJ3_checkIndex_8e157_17 : decode cJ3_checkIndex_8e157 17 = .ok (.ireturn, 1) := by decide +kernel
