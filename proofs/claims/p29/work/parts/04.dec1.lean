theorem dX0_init_0 : decode cX0_init 0 = .ok (.aload_n 0, 1) := by decide +kernel
theorem dX0_init_1 : decode cX0_init 1 = .ok (.invokespecial 3, 3) := by decide +kernel
theorem dX0_init_4 : decode cX0_init 4 = .ok (.aload_n 0, 1) := by decide +kernel
theorem dX0_init_5 : decode cX0_init 5 = .ok (.iload_n 1, 1) := by decide +kernel
theorem dX0_init_6 : decode cX0_init 6 = .ok (.putfield 9, 3) := by decide +kernel
theorem dX0_init_9 : decode cX0_init 9 = .ok (.aload_n 0, 1) := by decide +kernel
theorem dX0_init_10 : decode cX0_init 10 = .ok (.iload_n 2, 1) := by decide +kernel
theorem dX0_init_11 : decode cX0_init 11 = .ok (.newarray .int, 2) := by decide +kernel
theorem dX0_init_13 : decode cX0_init 13 = .ok (.putfield 15, 3) := by decide +kernel
theorem dX0_init_16 : decode cX0_init 16 = .ok (.aload_n 0, 1) := by decide +kernel
theorem dX0_init_17 : decode cX0_init 17 = .ok (.bipush 8, 2) := by decide +kernel
theorem dX0_init_19 : decode cX0_init 19 = .ok (.newarray .long, 2) := by decide +kernel
theorem dX0_init_21 : decode cX0_init 21 = .ok (.putfield 19, 3) := by decide +kernel
theorem dX0_init_24 : decode cX0_init 24 = .ok (.aload_n 0, 1) := by decide +kernel
theorem dX0_init_25 : decode cX0_init 25 = .ok (.bipush 8, 2) := by decide +kernel
theorem dX0_init_27 : decode cX0_init 27 = .ok (.newarray .boolean, 2) := by decide +kernel
theorem dX0_init_29 : decode cX0_init 29 = .ok (.putfield 23, 3) := by decide +kernel
theorem dX0_init_32 : decode cX0_init 32 = .ok (.aload_n 0, 1) := by decide +kernel
theorem dX0_init_33 : decode cX0_init 33 = .ok (.iconst (-1), 1) := by decide +kernel
theorem dX0_init_34 : decode cX0_init 34 = .ok (.putfield 27, 3) := by decide +kernel
theorem dX0_init_37 : decode cX0_init 37 = .ok (.return_, 1) := by decide +kernel
theorem dX0_begin_0 : decode cX0_begin 0 = .ok (.aload_n 0, 1) := by decide +kernel
theorem dX0_begin_1 : decode cX0_begin 1 = .ok (.iload_n 1, 1) := by decide +kernel
theorem dX0_begin_2 : decode cX0_begin 2 = .ok (.bipush 8, 2) := by decide +kernel
theorem dX0_begin_4 : decode cX0_begin 4 = .ok (.invokestatic 30, 3) := by decide +kernel
theorem dX0_begin_7 : decode cX0_begin 7 = .ok (.putfield 36, 3) := by decide +kernel
theorem dX0_begin_10 : decode cX0_begin 10 = .ok (.iconst 0, 1) := by decide +kernel
theorem dX0_begin_11 : decode cX0_begin 11 = .ok (.istore_n 2, 1) := by decide +kernel
theorem dX0_begin_12 : decode cX0_begin 12 = .ok (.iload_n 2, 1) := by decide +kernel
theorem dX0_begin_13 : decode cX0_begin 13 = .ok (.bipush 8, 2) := by decide +kernel
theorem dX0_begin_15 : decode cX0_begin 15 = .ok (.if_icmp .ge 16, 3) := by decide +kernel
theorem dX0_begin_18 : decode cX0_begin 18 = .ok (.aload_n 0, 1) := by decide +kernel
theorem dX0_begin_19 : decode cX0_begin 19 = .ok (.getfield 23, 3) := by decide +kernel
theorem dX0_begin_22 : decode cX0_begin 22 = .ok (.iload_n 2, 1) := by decide +kernel
theorem dX0_begin_23 : decode cX0_begin 23 = .ok (.iconst 0, 1) := by decide +kernel
theorem dX0_begin_24 : decode cX0_begin 24 = .ok (.bastore, 1) := by decide +kernel
theorem dX0_begin_25 : decode cX0_begin 25 = .ok (.iinc 2 1, 3) := by decide +kernel
theorem dX0_begin_28 : decode cX0_begin 28 = .ok (.goto (-16), 3) := by decide +kernel
theorem dX0_begin_31 : decode cX0_begin 31 = .ok (.return_, 1) := by decide +kernel
theorem dX0_admit_0 : decode cX0_admit 0 = .ok (.iload_n 1, 1) := by decide +kernel
theorem dX0_admit_1 : decode cX0_admit 1 = .ok (.ifCond .lt 25, 3) := by decide +kernel
theorem dX0_admit_4 : decode cX0_admit 4 = .ok (.iload_n 1, 1) := by decide +kernel
theorem dX0_admit_5 : decode cX0_admit 5 = .ok (.aload_n 0, 1) := by decide +kernel
theorem dX0_admit_6 : decode cX0_admit 6 = .ok (.getfield 36, 3) := by decide +kernel
theorem dX0_admit_9 : decode cX0_admit 9 = .ok (.if_icmp .ge 17, 3) := by decide +kernel
theorem dX0_admit_12 : decode cX0_admit 12 = .ok (.aload_n 0, 1) := by decide +kernel
theorem dX0_admit_13 : decode cX0_admit 13 = .ok (.getfield 23, 3) := by decide +kernel
theorem dX0_admit_16 : decode cX0_admit 16 = .ok (.iload_n 1, 1) := by decide +kernel
theorem dX0_admit_17 : decode cX0_admit 17 = .ok (.iconst 1, 1) := by decide +kernel
theorem dX0_admit_18 : decode cX0_admit 18 = .ok (.bastore, 1) := by decide +kernel
theorem dX0_admit_19 : decode cX0_admit 19 = .ok (.aload_n 0, 1) := by decide +kernel
theorem dX0_admit_20 : decode cX0_admit 20 = .ok (.getfield 19, 3) := by decide +kernel
theorem dX0_admit_23 : decode cX0_admit 23 = .ok (.iload_n 1, 1) := by decide +kernel
theorem dX0_admit_24 : decode cX0_admit 24 = .ok (.lload_n 2, 1) := by decide +kernel
theorem dX0_admit_25 : decode cX0_admit 25 = .ok (.lastore, 1) := by decide +kernel
theorem dX0_admit_26 : decode cX0_admit 26 = .ok (.return_, 1) := by decide +kernel
theorem dX0_find_0 : decode cX0_find 0 = .ok (.aload_n 0, 1) := by decide +kernel
theorem dX0_find_1 : decode cX0_find 1 = .ok (.iconst 0, 1) := by decide +kernel
theorem dX0_find_2 : decode cX0_find 2 = .ok (.putfield 39, 3) := by decide +kernel
theorem dX0_find_5 : decode cX0_find 5 = .ok (.aload_n 0, 1) := by decide +kernel
theorem dX0_find_6 : decode cX0_find 6 = .ok (.iconst 0, 1) := by decide +kernel
theorem dX0_find_7 : decode cX0_find 7 = .ok (.putfield 42, 3) := by decide +kernel
theorem dX0_find_10 : decode cX0_find 10 = .ok (.aload_n 0, 1) := by decide +kernel
theorem dX0_find_11 : decode cX0_find 11 = .ok (.lconst 0, 1) := by decide +kernel
theorem dX0_find_12 : decode cX0_find 12 = .ok (.putfield 45, 3) := by decide +kernel
theorem dX0_find_15 : decode cX0_find 15 = .ok (.iconst 1, 1) := by decide +kernel
theorem dX0_find_16 : decode cX0_find 16 = .ok (.istore_n 1, 1) := by decide +kernel
theorem dX0_find_17 : decode cX0_find 17 = .ok (.iload_n 1, 1) := by decide +kernel
theorem dX0_find_18 : decode cX0_find 18 = .ok (.sipush 6561, 3) := by decide +kernel
theorem dX0_find_21 : decode cX0_find 21 = .ok (.if_icmp .ge 67, 3) := by decide +kernel
theorem dX0_find_24 : decode cX0_find 24 = .ok (.aload_n 0, 1) := by decide +kernel
theorem dX0_find_25 : decode cX0_find 25 = .ok (.invokevirtual 49, 3) := by decide +kernel
theorem dX0_find_28 : decode cX0_find 28 = .ok (.ifCond .eq 60, 3) := by decide +kernel
theorem dX0_find_31 : decode cX0_find 31 = .ok (.aload_n 0, 1) := by decide +kernel
theorem dX0_find_32 : decode cX0_find 32 = .ok (.getfield 45, 3) := by decide +kernel
theorem dX0_find_35 : decode cX0_find 35 = .ok (.lconst 0, 1) := by decide +kernel
theorem dX0_find_36 : decode cX0_find 36 = .ok (.lcmp, 1) := by decide +kernel
theorem dX0_find_37 : decode cX0_find 37 = .ok (.ifCond .ne 45, 3) := by decide +kernel
theorem dX0_find_40 : decode cX0_find 40 = .ok (.aload_n 0, 1) := by decide +kernel
theorem dX0_find_41 : decode cX0_find 41 = .ok (.getfield 39, 3) := by decide +kernel
theorem dX0_find_44 : decode cX0_find 44 = .ok (.aload_n 0, 1) := by decide +kernel
theorem dX0_find_45 : decode cX0_find 45 = .ok (.getfield 15, 3) := by decide +kernel
theorem dX0_find_48 : decode cX0_find 48 = .ok (.arraylength, 1) := by decide +kernel
theorem dX0_find_49 : decode cX0_find 49 = .ok (.if_icmp .ge 33, 3) := by decide +kernel
theorem dX0_find_52 : decode cX0_find 52 = .ok (.aload_n 0, 1) := by decide +kernel
theorem dX0_find_53 : decode cX0_find 53 = .ok (.invokevirtual 53, 3) := by decide +kernel
theorem dX0_find_56 : decode cX0_find 56 = .ok (.ifCond .ne 26, 3) := by decide +kernel
theorem dX0_find_59 : decode cX0_find 59 = .ok (.aload_n 0, 1) := by decide +kernel
theorem dX0_find_60 : decode cX0_find 60 = .ok (.getfield 15, 3) := by decide +kernel
theorem dX0_find_63 : decode cX0_find 63 = .ok (.aload_n 0, 1) := by decide +kernel
theorem dX0_find_64 : decode cX0_find 64 = .ok (.getfield 39, 3) := by decide +kernel
theorem dX0_find_67 : decode cX0_find 67 = .ok (.aload_n 0, 1) := by decide +kernel
theorem dX0_find_68 : decode cX0_find 68 = .ok (.getfield 42, 3) := by decide +kernel
theorem dX0_find_71 : decode cX0_find 71 = .ok (.iastore, 1) := by decide +kernel
theorem dX0_find_72 : decode cX0_find 72 = .ok (.aload_n 0, 1) := by decide +kernel
theorem dX0_find_73 : decode cX0_find 73 = .ok (.dup, 1) := by decide +kernel
theorem dX0_find_74 : decode cX0_find 74 = .ok (.getfield 39, 3) := by decide +kernel
theorem dX0_find_77 : decode cX0_find 77 = .ok (.iconst 1, 1) := by decide +kernel
theorem dX0_find_78 : decode cX0_find 78 = .ok (.iadd, 1) := by decide +kernel
theorem dX0_find_79 : decode cX0_find 79 = .ok (.putfield 39, 3) := by decide +kernel
theorem dX0_find_82 : decode cX0_find 82 = .ok (.iinc 1 1, 3) := by decide +kernel
theorem dX0_find_85 : decode cX0_find 85 = .ok (.goto (-68), 3) := by decide +kernel
theorem dX0_find_88 : decode cX0_find 88 = .ok (.return_, 1) := by decide +kernel
theorem dX0_advance_0 : decode cX0_advance 0 = .ok (.aload_n 0, 1) := by decide +kernel
theorem dX0_advance_1 : decode cX0_advance 1 = .ok (.getfield 36, 3) := by decide +kernel
theorem dX0_advance_4 : decode cX0_advance 4 = .ok (.iconst 1, 1) := by decide +kernel
theorem dX0_advance_5 : decode cX0_advance 5 = .ok (.isub, 1) := by decide +kernel
theorem dX0_advance_6 : decode cX0_advance 6 = .ok (.istore_n 1, 1) := by decide +kernel
theorem dX0_advance_7 : decode cX0_advance 7 = .ok (.iload_n 1, 1) := by decide +kernel
theorem dX0_advance_8 : decode cX0_advance 8 = .ok (.ifCond .lt 101, 3) := by decide +kernel
theorem dX0_advance_11 : decode cX0_advance 11 = .ok (.aload_n 0, 1) := by decide +kernel
theorem dX0_advance_12 : decode cX0_advance 12 = .ok (.getfield 23, 3) := by decide +kernel
theorem dX0_advance_15 : decode cX0_advance 15 = .ok (.iload_n 1, 1) := by decide +kernel
theorem dX0_advance_16 : decode cX0_advance 16 = .ok (.baload, 1) := by decide +kernel
theorem dX0_advance_17 : decode cX0_advance 17 = .ok (.ifCond .eq 86, 3) := by decide +kernel
theorem dX0_advance_20 : decode cX0_advance 20 = .ok (.aload_n 0, 1) := by decide +kernel
theorem dX0_advance_21 : decode cX0_advance 21 = .ok (.getfield 42, 3) := by decide +kernel
theorem dX0_advance_24 : decode cX0_advance 24 = .ok (.iconst 3, 1) := by decide +kernel
theorem dX0_advance_25 : decode cX0_advance 25 = .ok (.iload_n 1, 1) := by decide +kernel
theorem dX0_advance_26 : decode cX0_advance 26 = .ok (.imul, 1) := by decide +kernel
theorem dX0_advance_27 : decode cX0_advance 27 = .ok (.ishr, 1) := by decide +kernel
theorem dX0_advance_28 : decode cX0_advance 28 = .ok (.bipush 7, 2) := by decide +kernel
theorem dX0_advance_30 : decode cX0_advance 30 = .ok (.iand, 1) := by decide +kernel
theorem dX0_advance_31 : decode cX0_advance 31 = .ok (.istore_n 2, 1) := by decide +kernel
theorem dX0_advance_32 : decode cX0_advance 32 = .ok (.iload_n 2, 1) := by decide +kernel
theorem dX0_advance_33 : decode cX0_advance 33 = .ok (.aload_n 0, 1) := by decide +kernel
theorem dX0_advance_34 : decode cX0_advance 34 = .ok (.getfield 9, 3) := by decide +kernel
theorem dX0_advance_37 : decode cX0_advance 37 = .ok (.if_icmp .ge 34, 3) := by decide +kernel
theorem dX0_advance_40 : decode cX0_advance 40 = .ok (.aload_n 0, 1) := by decide +kernel
theorem dX0_advance_41 : decode cX0_advance 41 = .ok (.dup, 1) := by decide +kernel
theorem dX0_advance_42 : decode cX0_advance 42 = .ok (.getfield 42, 3) := by decide +kernel
theorem dX0_advance_45 : decode cX0_advance 45 = .ok (.iconst 1, 1) := by decide +kernel
theorem dX0_advance_46 : decode cX0_advance 46 = .ok (.iconst 3, 1) := by decide +kernel
theorem dX0_advance_47 : decode cX0_advance 47 = .ok (.iload_n 1, 1) := by decide +kernel
theorem dX0_advance_48 : decode cX0_advance 48 = .ok (.imul, 1) := by decide +kernel
theorem dX0_advance_49 : decode cX0_advance 49 = .ok (.ishl, 1) := by decide +kernel
theorem dX0_advance_50 : decode cX0_advance 50 = .ok (.iadd, 1) := by decide +kernel
theorem dX0_advance_51 : decode cX0_advance 51 = .ok (.putfield 42, 3) := by decide +kernel
theorem dX0_advance_54 : decode cX0_advance 54 = .ok (.aload_n 0, 1) := by decide +kernel
theorem dX0_advance_55 : decode cX0_advance 55 = .ok (.dup, 1) := by decide +kernel
theorem dX0_advance_56 : decode cX0_advance 56 = .ok (.getfield 45, 3) := by decide +kernel
theorem dX0_advance_59 : decode cX0_advance 59 = .ok (.aload_n 0, 1) := by decide +kernel
theorem dX0_advance_60 : decode cX0_advance 60 = .ok (.getfield 19, 3) := by decide +kernel
theorem dX0_advance_63 : decode cX0_advance 63 = .ok (.iload_n 1, 1) := by decide +kernel
theorem dX0_advance_64 : decode cX0_advance 64 = .ok (.laload, 1) := by decide +kernel
theorem dX0_advance_65 : decode cX0_advance 65 = .ok (.ladd, 1) := by decide +kernel
theorem dX0_advance_66 : decode cX0_advance 66 = .ok (.putfield 45, 3) := by decide +kernel
theorem dX0_advance_69 : decode cX0_advance 69 = .ok (.iconst 1, 1) := by decide +kernel
theorem dX0_advance_70 : decode cX0_advance 70 = .ok (.ireturn, 1) := by decide +kernel
theorem dX0_advance_71 : decode cX0_advance 71 = .ok (.aload_n 0, 1) := by decide +kernel
theorem dX0_advance_72 : decode cX0_advance 72 = .ok (.dup, 1) := by decide +kernel
theorem dX0_advance_73 : decode cX0_advance 73 = .ok (.getfield 42, 3) := by decide +kernel
theorem dX0_advance_76 : decode cX0_advance 76 = .ok (.iload_n 2, 1) := by decide +kernel
theorem dX0_advance_77 : decode cX0_advance 77 = .ok (.iconst 3, 1) := by decide +kernel
theorem dX0_advance_78 : decode cX0_advance 78 = .ok (.iload_n 1, 1) := by decide +kernel
theorem dX0_advance_79 : decode cX0_advance 79 = .ok (.imul, 1) := by decide +kernel
theorem dX0_advance_80 : decode cX0_advance 80 = .ok (.ishl, 1) := by decide +kernel
theorem dX0_advance_81 : decode cX0_advance 81 = .ok (.isub, 1) := by decide +kernel
theorem dX0_advance_82 : decode cX0_advance 82 = .ok (.putfield 42, 3) := by decide +kernel
theorem dX0_advance_85 : decode cX0_advance 85 = .ok (.aload_n 0, 1) := by decide +kernel
theorem dX0_advance_86 : decode cX0_advance 86 = .ok (.dup, 1) := by decide +kernel
theorem dX0_advance_87 : decode cX0_advance 87 = .ok (.getfield 45, 3) := by decide +kernel
theorem dX0_advance_90 : decode cX0_advance 90 = .ok (.iload_n 2, 1) := by decide +kernel
theorem dX0_advance_91 : decode cX0_advance 91 = .ok (.i2l, 1) := by decide +kernel
theorem dX0_advance_92 : decode cX0_advance 92 = .ok (.aload_n 0, 1) := by decide +kernel
theorem dX0_advance_93 : decode cX0_advance 93 = .ok (.getfield 19, 3) := by decide +kernel
theorem dX0_advance_96 : decode cX0_advance 96 = .ok (.iload_n 1, 1) := by decide +kernel
theorem dX0_advance_97 : decode cX0_advance 97 = .ok (.laload, 1) := by decide +kernel
theorem dX0_advance_98 : decode cX0_advance 98 = .ok (.lmul, 1) := by decide +kernel
theorem dX0_advance_99 : decode cX0_advance 99 = .ok (.lsub, 1) := by decide +kernel
theorem dX0_advance_100 : decode cX0_advance 100 = .ok (.putfield 45, 3) := by decide +kernel
theorem dX0_advance_103 : decode cX0_advance 103 = .ok (.iinc 1 (-1), 3) := by decide +kernel
theorem dX0_advance_106 : decode cX0_advance 106 = .ok (.goto (-99), 3) := by decide +kernel
theorem dX0_advance_109 : decode cX0_advance 109 = .ok (.iconst 0, 1) := by decide +kernel
theorem dX0_advance_110 : decode cX0_advance 110 = .ok (.ireturn, 1) := by decide +kernel
theorem dX0_coversKept_0 : decode cX0_coversKept 0 = .ok (.aload_n 0, 1) := by decide +kernel
theorem dX0_coversKept_1 : decode cX0_coversKept 1 = .ok (.getfield 42, 3) := by decide +kernel
theorem dX0_coversKept_4 : decode cX0_coversKept 4 = .ok (.ldc 56, 2) := by decide +kernel
theorem dX0_coversKept_6 : decode cX0_coversKept 6 = .ok (.ior, 1) := by decide +kernel
theorem dX0_coversKept_7 : decode cX0_coversKept 7 = .ok (.istore_n 1, 1) := by decide +kernel
theorem dX0_coversKept_8 : decode cX0_coversKept 8 = .ok (.iconst 0, 1) := by decide +kernel
theorem dX0_coversKept_9 : decode cX0_coversKept 9 = .ok (.istore_n 2, 1) := by decide +kernel
theorem dX0_coversKept_10 : decode cX0_coversKept 10 = .ok (.iload_n 2, 1) := by decide +kernel
theorem dX0_coversKept_11 : decode cX0_coversKept 11 = .ok (.aload_n 0, 1) := by decide +kernel
theorem dX0_coversKept_12 : decode cX0_coversKept 12 = .ok (.getfield 39, 3) := by decide +kernel
theorem dX0_coversKept_15 : decode cX0_coversKept 15 = .ok (.if_icmp .ge 27, 3) := by decide +kernel
theorem dX0_coversKept_18 : decode cX0_coversKept 18 = .ok (.iload_n 1, 1) := by decide +kernel
theorem dX0_coversKept_19 : decode cX0_coversKept 19 = .ok (.aload_n 0, 1) := by decide +kernel
theorem dX0_coversKept_20 : decode cX0_coversKept 20 = .ok (.getfield 15, 3) := by decide +kernel
theorem dX0_coversKept_23 : decode cX0_coversKept 23 = .ok (.iload_n 2, 1) := by decide +kernel
theorem dX0_coversKept_24 : decode cX0_coversKept 24 = .ok (.iaload, 1) := by decide +kernel
theorem dX0_coversKept_25 : decode cX0_coversKept 25 = .ok (.isub, 1) := by decide +kernel
theorem dX0_coversKept_26 : decode cX0_coversKept 26 = .ok (.ldc 56, 2) := by decide +kernel
theorem dX0_coversKept_28 : decode cX0_coversKept 28 = .ok (.iand, 1) := by decide +kernel
theorem dX0_coversKept_29 : decode cX0_coversKept 29 = .ok (.ldc 56, 2) := by decide +kernel
theorem dX0_coversKept_31 : decode cX0_coversKept 31 = .ok (.if_icmp .ne 5, 3) := by decide +kernel
theorem dX0_coversKept_34 : decode cX0_coversKept 34 = .ok (.iconst 1, 1) := by decide +kernel
theorem dX0_coversKept_35 : decode cX0_coversKept 35 = .ok (.ireturn, 1) := by decide +kernel
theorem dX0_coversKept_36 : decode cX0_coversKept 36 = .ok (.iinc 2 1, 3) := by decide +kernel
theorem dX0_coversKept_39 : decode cX0_coversKept 39 = .ok (.goto (-29), 3) := by decide +kernel
theorem dX0_coversKept_42 : decode cX0_coversKept 42 = .ok (.iconst 0, 1) := by decide +kernel
theorem dX0_coversKept_43 : decode cX0_coversKept 43 = .ok (.ireturn, 1) := by decide +kernel
theorem dX0_numberOf_0 : decode cX0_numberOf 0 = .ok (.iload_n 1, 1) := by decide +kernel
theorem dX0_numberOf_1 : decode cX0_numberOf 1 = .ok (.ifCond .lt 27, 3) := by decide +kernel
theorem dX0_numberOf_4 : decode cX0_numberOf 4 = .ok (.iload_n 1, 1) := by decide +kernel
theorem dX0_numberOf_5 : decode cX0_numberOf 5 = .ok (.aload_n 0, 1) := by decide +kernel
theorem dX0_numberOf_6 : decode cX0_numberOf 6 = .ok (.getfield 39, 3) := by decide +kernel
theorem dX0_numberOf_9 : decode cX0_numberOf 9 = .ok (.if_icmp .ge 19, 3) := by decide +kernel
theorem dX0_numberOf_12 : decode cX0_numberOf 12 = .ok (.aload_n 0, 1) := by decide +kernel
theorem dX0_numberOf_13 : decode cX0_numberOf 13 = .ok (.getfield 15, 3) := by decide +kernel
theorem dX0_numberOf_16 : decode cX0_numberOf 16 = .ok (.iload_n 1, 1) := by decide +kernel
theorem dX0_numberOf_17 : decode cX0_numberOf 17 = .ok (.iaload, 1) := by decide +kernel
theorem dX0_numberOf_18 : decode cX0_numberOf 18 = .ok (.iconst 3, 1) := by decide +kernel
theorem dX0_numberOf_19 : decode cX0_numberOf 19 = .ok (.iload_n 2, 1) := by decide +kernel
theorem dX0_numberOf_20 : decode cX0_numberOf 20 = .ok (.imul, 1) := by decide +kernel
theorem dX0_numberOf_21 : decode cX0_numberOf 21 = .ok (.ishr, 1) := by decide +kernel
theorem dX0_numberOf_22 : decode cX0_numberOf 22 = .ok (.bipush 7, 2) := by decide +kernel
theorem dX0_numberOf_24 : decode cX0_numberOf 24 = .ok (.iand, 1) := by decide +kernel
theorem dX0_numberOf_25 : decode cX0_numberOf 25 = .ok (.goto 4, 3) := by decide +kernel
theorem dX0_numberOf_28 : decode cX0_numberOf 28 = .ok (.iconst 0, 1) := by decide +kernel
theorem dX0_numberOf_29 : decode cX0_numberOf 29 = .ok (.ireturn, 1) := by decide +kernel
theorem dX1_init_0 : decode cX1_init 0 = .ok (.aload_n 0, 1) := by decide +kernel
theorem dX1_init_1 : decode cX1_init 1 = .ok (.invokespecial 5, 3) := by decide +kernel
theorem dX1_init_4 : decode cX1_init 4 = .ok (.aload_n 0, 1) := by decide +kernel
theorem dX1_init_5 : decode cX1_init 5 = .ok (.aload_n 1, 1) := by decide +kernel
theorem dX1_init_6 : decode cX1_init 6 = .ok (.putfield 11, 3) := by decide +kernel
theorem dX1_init_9 : decode cX1_init 9 = .ok (.aload_n 0, 1) := by decide +kernel
theorem dX1_init_10 : decode cX1_init 10 = .ok (.sipush 300, 3) := by decide +kernel
theorem dX1_init_13 : decode cX1_init 13 = .ok (.newarray .long, 2) := by decide +kernel
theorem dX1_init_15 : decode cX1_init 15 = .ok (.putfield 15, 3) := by decide +kernel
theorem dX1_init_18 : decode cX1_init 18 = .ok (.aload_n 0, 1) := by decide +kernel
theorem dX1_init_19 : decode cX1_init 19 = .ok (.sipush 1024, 3) := by decide +kernel
theorem dX1_init_22 : decode cX1_init 22 = .ok (.newarray .int, 2) := by decide +kernel
theorem dX1_init_24 : decode cX1_init 24 = .ok (.putfield 19, 3) := by decide +kernel
theorem dX1_init_27 : decode cX1_init 27 = .ok (.aload_n 0, 1) := by decide +kernel
theorem dX1_init_28 : decode cX1_init 28 = .ok (.sipush 300, 3) := by decide +kernel
theorem dX1_init_31 : decode cX1_init 31 = .ok (.newarray .int, 2) := by decide +kernel
theorem dX1_init_33 : decode cX1_init 33 = .ok (.putfield 23, 3) := by decide +kernel
theorem dX1_init_36 : decode cX1_init 36 = .ok (.aload_n 0, 1) := by decide +kernel
theorem dX1_init_37 : decode cX1_init 37 = .ok (.sipush 300, 3) := by decide +kernel
theorem dX1_init_40 : decode cX1_init 40 = .ok (.newarray .int, 2) := by decide +kernel
theorem dX1_init_42 : decode cX1_init 42 = .ok (.putfield 26, 3) := by decide +kernel
theorem dX1_init_45 : decode cX1_init 45 = .ok (.aload_n 0, 1) := by decide +kernel
theorem dX1_init_46 : decode cX1_init 46 = .ok (.sipush 2400, 3) := by decide +kernel
theorem dX1_init_49 : decode cX1_init 49 = .ok (.newarray .int, 2) := by decide +kernel
theorem dX1_init_51 : decode cX1_init 51 = .ok (.putfield 29, 3) := by decide +kernel
theorem dX1_init_54 : decode cX1_init 54 = .ok (.aload_n 0, 1) := by decide +kernel
theorem dX1_init_55 : decode cX1_init 55 = .ok (.sipush 300, 3) := by decide +kernel
theorem dX1_init_58 : decode cX1_init 58 = .ok (.newarray .int, 2) := by decide +kernel
theorem dX1_init_60 : decode cX1_init 60 = .ok (.putfield 32, 3) := by decide +kernel
theorem dX1_init_63 : decode cX1_init 63 = .ok (.aload_n 0, 1) := by decide +kernel
theorem dX1_init_64 : decode cX1_init 64 = .ok (.sipush 2400, 3) := by decide +kernel
theorem dX1_init_67 : decode cX1_init 67 = .ok (.newarray .int, 2) := by decide +kernel
theorem dX1_init_69 : decode cX1_init 69 = .ok (.putfield 35, 3) := by decide +kernel
theorem dX1_init_72 : decode cX1_init 72 = .ok (.aload_n 0, 1) := by decide +kernel
theorem dX1_init_73 : decode cX1_init 73 = .ok (.sipush 300, 3) := by decide +kernel
theorem dX1_init_76 : decode cX1_init 76 = .ok (.newarray .boolean, 2) := by decide +kernel
theorem dX1_init_78 : decode cX1_init 78 = .ok (.putfield 38, 3) := by decide +kernel
theorem dX1_init_81 : decode cX1_init 81 = .ok (.aload_n 0, 1) := by decide +kernel
theorem dX1_init_82 : decode cX1_init 82 = .ok (.sipush 300, 3) := by decide +kernel
theorem dX1_init_85 : decode cX1_init 85 = .ok (.newarray .int, 2) := by decide +kernel
theorem dX1_init_87 : decode cX1_init 87 = .ok (.putfield 42, 3) := by decide +kernel
theorem dX1_init_90 : decode cX1_init 90 = .ok (.aload_n 0, 1) := by decide +kernel
theorem dX1_init_91 : decode cX1_init 91 = .ok (.iconst (-1), 1) := by decide +kernel
theorem dX1_init_92 : decode cX1_init 92 = .ok (.putfield 45, 3) := by decide +kernel
theorem dX1_init_95 : decode cX1_init 95 = .ok (.return_, 1) := by decide +kernel
theorem dX1_refresh_0 : decode cX1_refresh 0 = .ok (.aload_n 0, 1) := by decide +kernel
theorem dX1_refresh_1 : decode cX1_refresh 1 = .ok (.getfield 45, 3) := by decide +kernel
theorem dX1_refresh_4 : decode cX1_refresh 4 = .ok (.aload_n 0, 1) := by decide +kernel
theorem dX1_refresh_5 : decode cX1_refresh 5 = .ok (.getfield 11, 3) := by decide +kernel
theorem dX1_refresh_8 : decode cX1_refresh 8 = .ok (.getfield 49, 3) := by decide +kernel
theorem dX1_refresh_11 : decode cX1_refresh 11 = .ok (.if_icmp .ne 4, 3) := by decide +kernel
theorem dX1_refresh_14 : decode cX1_refresh 14 = .ok (.return_, 1) := by decide +kernel
theorem dX1_refresh_15 : decode cX1_refresh 15 = .ok (.aload_n 0, 1) := by decide +kernel
theorem dX1_refresh_16 : decode cX1_refresh 16 = .ok (.aload_n 0, 1) := by decide +kernel
theorem dX1_refresh_17 : decode cX1_refresh 17 = .ok (.getfield 11, 3) := by decide +kernel
theorem dX1_refresh_20 : decode cX1_refresh 20 = .ok (.getfield 49, 3) := by decide +kernel
theorem dX1_refresh_23 : decode cX1_refresh 23 = .ok (.putfield 45, 3) := by decide +kernel
theorem dX1_refresh_26 : decode cX1_refresh 26 = .ok (.aload_n 0, 1) := by decide +kernel
theorem dX1_refresh_27 : decode cX1_refresh 27 = .ok (.getfield 19, 3) := by decide +kernel
theorem dX1_refresh_30 : decode cX1_refresh 30 = .ok (.iconst (-1), 1) := by decide +kernel
theorem dX1_refresh_31 : decode cX1_refresh 31 = .ok (.invokestatic 52, 3) := by decide +kernel
theorem dX1_refresh_34 : decode cX1_refresh 34 = .ok (.aload_n 0, 1) := by decide +kernel
theorem dX1_refresh_35 : decode cX1_refresh 35 = .ok (.iconst 0, 1) := by decide +kernel
theorem dX1_refresh_36 : decode cX1_refresh 36 = .ok (.putfield 58, 3) := by decide +kernel
theorem dX1_refresh_39 : decode cX1_refresh 39 = .ok (.aload_n 0, 1) := by decide +kernel
theorem dX1_refresh_40 : decode cX1_refresh 40 = .ok (.iconst 0, 1) := by decide +kernel
theorem dX1_refresh_41 : decode cX1_refresh 41 = .ok (.putfield 61, 3) := by decide +kernel
theorem dX1_refresh_44 : decode cX1_refresh 44 = .ok (.aload_n 0, 1) := by decide +kernel
theorem dX1_refresh_45 : decode cX1_refresh 45 = .ok (.iconst 0, 1) := by decide +kernel
theorem dX1_refresh_46 : decode cX1_refresh 46 = .ok (.putfield 64, 3) := by decide +kernel
theorem dX1_refresh_49 : decode cX1_refresh 49 = .ok (.aload_n 0, 1) := by decide +kernel
theorem dX1_refresh_50 : decode cX1_refresh 50 = .ok (.iconst 0, 1) := by decide +kernel
theorem dX1_refresh_51 : decode cX1_refresh 51 = .ok (.putfield 67, 3) := by decide +kernel
theorem dX1_refresh_54 : decode cX1_refresh 54 = .ok (.aload_n 0, 1) := by decide +kernel
theorem dX1_refresh_55 : decode cX1_refresh 55 = .ok (.aload_n 0, 1) := by decide +kernel
theorem dX1_refresh_56 : decode cX1_refresh 56 = .ok (.getfield 11, 3) := by decide +kernel
theorem dX1_refresh_59 : decode cX1_refresh 59 = .ok (.getfield 71, 3) := by decide +kernel
theorem dX1_refresh_62 : decode cX1_refresh 62 = .ok (.iconst (-1), 1) := by decide +kernel
theorem dX1_refresh_63 : decode cX1_refresh 63 = .ok (.iconst 0, 1) := by decide +kernel
theorem dX1_refresh_64 : decode cX1_refresh 64 = .ok (.invokevirtual 75, 3) := by decide +kernel
theorem dX1_refresh_67 : decode cX1_refresh 67 = .ok (.pop, 1) := by decide +kernel
theorem dX1_refresh_68 : decode cX1_refresh 68 = .ok (.iconst 0, 1) := by decide +kernel
theorem dX1_refresh_69 : decode cX1_refresh 69 = .ok (.istore_n 1, 1) := by decide +kernel
theorem dX1_refresh_70 : decode cX1_refresh 70 = .ok (.iload_n 1, 1) := by decide +kernel
theorem dX1_refresh_71 : decode cX1_refresh 71 = .ok (.sipush 300, 3) := by decide +kernel
theorem dX1_refresh_74 : decode cX1_refresh 74 = .ok (.if_icmp .ge 29, 3) := by decide +kernel
theorem dX1_refresh_77 : decode cX1_refresh 77 = .ok (.iload_n 1, 1) := by decide +kernel
theorem dX1_refresh_78 : decode cX1_refresh 78 = .ok (.aload_n 0, 1) := by decide +kernel
theorem dX1_refresh_79 : decode cX1_refresh 79 = .ok (.getfield 58, 3) := by decide +kernel
theorem dX1_refresh_82 : decode cX1_refresh 82 = .ok (.if_icmp .ge 21, 3) := by decide +kernel
theorem dX1_refresh_85 : decode cX1_refresh 85 = .ok (.aload_n 0, 1) := by decide +kernel
theorem dX1_refresh_86 : decode cX1_refresh 86 = .ok (.getfield 67, 3) := by decide +kernel
theorem dX1_refresh_89 : decode cX1_refresh 89 = .ok (.ifCond .ne 14, 3) := by decide +kernel
theorem dX1_refresh_92 : decode cX1_refresh 92 = .ok (.aload_n 0, 1) := by decide +kernel
theorem dX1_refresh_93 : decode cX1_refresh 93 = .ok (.iload_n 1, 1) := by decide +kernel
theorem dX1_refresh_94 : decode cX1_refresh 94 = .ok (.invokevirtual 79, 3) := by decide +kernel
theorem dX1_refresh_97 : decode cX1_refresh 97 = .ok (.iinc 1 1, 3) := by decide +kernel
theorem dX1_refresh_100 : decode cX1_refresh 100 = .ok (.goto (-30), 3) := by decide +kernel
theorem dX1_refresh_103 : decode cX1_refresh 103 = .ok (.return_, 1) := by decide +kernel
theorem dX1_expand_0 : decode cX1_expand 0 = .ok (.iconst 0, 1) := by decide +kernel
theorem dX1_expand_1 : decode cX1_expand 1 = .ok (.istore_n 2, 1) := by decide +kernel
theorem dX1_expand_2 : decode cX1_expand 2 = .ok (.iconst 0, 1) := by decide +kernel
theorem dX1_expand_3 : decode cX1_expand 3 = .ok (.istore_n 3, 1) := by decide +kernel
theorem dX1_expand_4 : decode cX1_expand 4 = .ok (.iload_n 3, 1) := by decide +kernel
theorem dX1_expand_5 : decode cX1_expand 5 = .ok (.bipush 8, 2) := by decide +kernel
theorem dX1_expand_7 : decode cX1_expand 7 = .ok (.if_icmp .ge 91, 3) := by decide +kernel
theorem dX1_expand_10 : decode cX1_expand 10 = .ok (.iload_n 3, 1) := by decide +kernel
theorem dX1_expand_11 : decode cX1_expand 11 = .ok (.aload_n 0, 1) := by decide +kernel
theorem dX1_expand_12 : decode cX1_expand 12 = .ok (.getfield 11, 3) := by decide +kernel
theorem dX1_expand_15 : decode cX1_expand 15 = .ok (.getfield 83, 3) := by decide +kernel
theorem dX1_expand_18 : decode cX1_expand 18 = .ok (.if_icmp .ge 80, 3) := by decide +kernel
theorem dX1_expand_21 : decode cX1_expand 21 = .ok (.aload_n 0, 1) := by decide +kernel
theorem dX1_expand_22 : decode cX1_expand 22 = .ok (.getfield 67, 3) := by decide +kernel
theorem dX1_expand_25 : decode cX1_expand 25 = .ok (.ifCond .ne 73, 3) := by decide +kernel
theorem dX1_expand_28 : decode cX1_expand 28 = .ok (.iload_n 1, 1) := by decide +kernel
theorem dX1_expand_29 : decode cX1_expand 29 = .ok (.bipush 8, 2) := by decide +kernel
theorem dX1_expand_31 : decode cX1_expand 31 = .ok (.imul, 1) := by decide +kernel
theorem dX1_expand_32 : decode cX1_expand 32 = .ok (.iload_n 3, 1) := by decide +kernel
theorem dX1_expand_33 : decode cX1_expand 33 = .ok (.iadd, 1) := by decide +kernel
theorem dX1_expand_34 : decode cX1_expand 34 = .ok (.istore 4, 2) := by decide +kernel
theorem dX1_expand_36 : decode cX1_expand 36 = .ok (.aload_n 0, 1) := by decide +kernel
theorem dX1_expand_37 : decode cX1_expand 37 = .ok (.getfield 29, 3) := by decide +kernel
theorem dX1_expand_40 : decode cX1_expand 40 = .ok (.iload 4, 2) := by decide +kernel
theorem dX1_expand_42 : decode cX1_expand 42 = .ok (.iconst (-1), 1) := by decide +kernel
theorem dX1_expand_43 : decode cX1_expand 43 = .ok (.iastore, 1) := by decide +kernel
theorem dX1_expand_44 : decode cX1_expand 44 = .ok (.aload_n 0, 1) := by decide +kernel
theorem dX1_expand_45 : decode cX1_expand 45 = .ok (.getfield 11, 3) := by decide +kernel
theorem dX1_expand_48 : decode cX1_expand 48 = .ok (.aload_n 0, 1) := by decide +kernel
theorem dX1_expand_49 : decode cX1_expand 49 = .ok (.getfield 15, 3) := by decide +kernel
theorem dX1_expand_52 : decode cX1_expand 52 = .ok (.iload_n 1, 1) := by decide +kernel
theorem dX1_expand_53 : decode cX1_expand 53 = .ok (.laload, 1) := by decide +kernel
theorem dX1_expand_54 : decode cX1_expand 54 = .ok (.iload_n 3, 1) := by decide +kernel
theorem dX1_expand_55 : decode cX1_expand 55 = .ok (.invokevirtual 86, 3) := by decide +kernel
theorem dX1_expand_58 : decode cX1_expand 58 = .ok (.ifCond .eq 34, 3) := by decide +kernel
theorem dX1_expand_61 : decode cX1_expand 61 = .ok (.iinc 2 1, 3) := by decide +kernel
theorem dX1_expand_64 : decode cX1_expand 64 = .ok (.aload_n 0, 1) := by decide +kernel
theorem dX1_expand_65 : decode cX1_expand 65 = .ok (.iload 4, 2) := by decide +kernel
theorem dX1_expand_67 : decode cX1_expand 67 = .ok (.aload_n 0, 1) := by decide +kernel
theorem dX1_expand_68 : decode cX1_expand 68 = .ok (.getfield 11, 3) := by decide +kernel
theorem dX1_expand_71 : decode cX1_expand 71 = .ok (.aload_n 0, 1) := by decide +kernel
theorem dX1_expand_72 : decode cX1_expand 72 = .ok (.getfield 15, 3) := by decide +kernel
theorem dX1_expand_75 : decode cX1_expand 75 = .ok (.iload_n 1, 1) := by decide +kernel
theorem dX1_expand_76 : decode cX1_expand 76 = .ok (.laload, 1) := by decide +kernel
theorem dX1_expand_77 : decode cX1_expand 77 = .ok (.iload_n 3, 1) := by decide +kernel
theorem dX1_expand_78 : decode cX1_expand 78 = .ok (.invokevirtual 90, 3) := by decide +kernel
theorem dX1_expand_81 : decode cX1_expand 81 = .ok (.aload_n 0, 1) := by decide +kernel
theorem dX1_expand_82 : decode cX1_expand 82 = .ok (.getfield 23, 3) := by decide +kernel
theorem dX1_expand_85 : decode cX1_expand 85 = .ok (.iload_n 1, 1) := by decide +kernel
theorem dX1_expand_86 : decode cX1_expand 86 = .ok (.iaload, 1) := by decide +kernel
theorem dX1_expand_87 : decode cX1_expand 87 = .ok (.iconst 1, 1) := by decide +kernel
theorem dX1_expand_88 : decode cX1_expand 88 = .ok (.iadd, 1) := by decide +kernel
theorem dX1_expand_89 : decode cX1_expand 89 = .ok (.invokevirtual 94, 3) := by decide +kernel
theorem dX1_expand_92 : decode cX1_expand 92 = .ok (.iinc 3 1, 3) := by decide +kernel
theorem dX1_expand_95 : decode cX1_expand 95 = .ok (.goto (-91), 3) := by decide +kernel
theorem dX1_expand_98 : decode cX1_expand 98 = .ok (.aload_n 0, 1) := by decide +kernel
theorem dX1_expand_99 : decode cX1_expand 99 = .ok (.dup, 1) := by decide +kernel
theorem dX1_expand_100 : decode cX1_expand 100 = .ok (.getfield 61, 3) := by decide +kernel
theorem dX1_expand_103 : decode cX1_expand 103 = .ok (.iload_n 2, 1) := by decide +kernel
theorem dX1_expand_104 : decode cX1_expand 104 = .ok (.iadd, 1) := by decide +kernel
theorem dX1_expand_105 : decode cX1_expand 105 = .ok (.putfield 61, 3) := by decide +kernel
theorem dX1_expand_108 : decode cX1_expand 108 = .ok (.iload_n 2, 1) := by decide +kernel
theorem dX1_expand_109 : decode cX1_expand 109 = .ok (.ifCond .ne 13, 3) := by decide +kernel
theorem dX1_expand_112 : decode cX1_expand 112 = .ok (.aload_n 0, 1) := by decide +kernel
theorem dX1_expand_113 : decode cX1_expand 113 = .ok (.dup, 1) := by decide +kernel
theorem dX1_expand_114 : decode cX1_expand 114 = .ok (.getfield 64, 3) := by decide +kernel
theorem dX1_expand_117 : decode cX1_expand 117 = .ok (.iconst 1, 1) := by decide +kernel
theorem dX1_expand_118 : decode cX1_expand 118 = .ok (.iadd, 1) := by decide +kernel
theorem dX1_expand_119 : decode cX1_expand 119 = .ok (.putfield 64, 3) := by decide +kernel
theorem dX1_expand_122 : decode cX1_expand 122 = .ok (.return_, 1) := by decide +kernel
theorem dX1_follow_0 : decode cX1_follow 0 = .ok (.aload_n 0, 1) := by decide +kernel
theorem dX1_follow_1 : decode cX1_follow 1 = .ok (.lload_n 2, 1) := by decide +kernel
theorem dX1_follow_2 : decode cX1_follow 2 = .ok (.iload_n 1, 1) := by decide +kernel
theorem dX1_follow_3 : decode cX1_follow 3 = .ok (.iload 4, 2) := by decide +kernel
theorem dX1_follow_5 : decode cX1_follow 5 = .ok (.invokevirtual 75, 3) := by decide +kernel
theorem dX1_follow_8 : decode cX1_follow 8 = .ok (.istore 5, 2) := by decide +kernel
theorem dX1_follow_10 : decode cX1_follow 10 = .ok (.iload 5, 2) := by decide +kernel
theorem dX1_follow_12 : decode cX1_follow 12 = .ok (.ifCond .lt 11, 3) := by decide +kernel
theorem dX1_follow_15 : decode cX1_follow 15 = .ok (.iload 5, 2) := by decide +kernel
theorem dX1_follow_17 : decode cX1_follow 17 = .ok (.sipush 300, 3) := by decide +kernel
theorem dX1_follow_20 : decode cX1_follow 20 = .ok (.if_icmp .lt 9, 3) := by decide +kernel
theorem dX1_follow_23 : decode cX1_follow 23 = .ok (.aload_n 0, 1) := by decide +kernel
theorem dX1_follow_24 : decode cX1_follow 24 = .ok (.iconst 1, 1) := by decide +kernel
theorem dX1_follow_25 : decode cX1_follow 25 = .ok (.putfield 67, 3) := by decide +kernel
theorem dX1_follow_28 : decode cX1_follow 28 = .ok (.return_, 1) := by decide +kernel
theorem dX1_follow_29 : decode cX1_follow 29 = .ok (.aload_n 0, 1) := by decide +kernel
theorem dX1_follow_30 : decode cX1_follow 30 = .ok (.getfield 29, 3) := by decide +kernel
theorem dX1_follow_33 : decode cX1_follow 33 = .ok (.iload_n 1, 1) := by decide +kernel
theorem dX1_follow_34 : decode cX1_follow 34 = .ok (.iload 5, 2) := by decide +kernel
theorem dX1_follow_36 : decode cX1_follow 36 = .ok (.iastore, 1) := by decide +kernel
theorem dX1_follow_37 : decode cX1_follow 37 = .ok (.aload_n 0, 1) := by decide +kernel
theorem dX1_follow_38 : decode cX1_follow 38 = .ok (.getfield 35, 3) := by decide +kernel
theorem dX1_follow_41 : decode cX1_follow 41 = .ok (.iload_n 1, 1) := by decide +kernel
theorem dX1_follow_42 : decode cX1_follow 42 = .ok (.aload_n 0, 1) := by decide +kernel
theorem dX1_follow_43 : decode cX1_follow 43 = .ok (.getfield 32, 3) := by decide +kernel
theorem dX1_follow_46 : decode cX1_follow 46 = .ok (.iload 5, 2) := by decide +kernel
theorem dX1_follow_48 : decode cX1_follow 48 = .ok (.iaload, 1) := by decide +kernel
theorem dX1_follow_49 : decode cX1_follow 49 = .ok (.iastore, 1) := by decide +kernel
theorem dX1_follow_50 : decode cX1_follow 50 = .ok (.aload_n 0, 1) := by decide +kernel
theorem dX1_follow_51 : decode cX1_follow 51 = .ok (.getfield 32, 3) := by decide +kernel
theorem dX1_follow_54 : decode cX1_follow 54 = .ok (.iload 5, 2) := by decide +kernel
theorem dX1_follow_56 : decode cX1_follow 56 = .ok (.iload_n 1, 1) := by decide +kernel
theorem dX1_follow_57 : decode cX1_follow 57 = .ok (.iastore, 1) := by decide +kernel
theorem dX1_follow_58 : decode cX1_follow 58 = .ok (.return_, 1) := by decide +kernel
theorem dX1_indexFor_0 : decode cX1_indexFor 0 = .ok (.aload_n 0, 1) := by decide +kernel
theorem dX1_indexFor_1 : decode cX1_indexFor 1 = .ok (.lload_n 1, 1) := by decide +kernel
theorem dX1_indexFor_2 : decode cX1_indexFor 2 = .ok (.invokevirtual 98, 3) := by decide +kernel
theorem dX1_indexFor_5 : decode cX1_indexFor 5 = .ok (.istore 5, 2) := by decide +kernel
theorem dX1_indexFor_7 : decode cX1_indexFor 7 = .ok (.aload_n 0, 1) := by decide +kernel
theorem dX1_indexFor_8 : decode cX1_indexFor 8 = .ok (.getfield 19, 3) := by decide +kernel
theorem dX1_indexFor_11 : decode cX1_indexFor 11 = .ok (.iload 5, 2) := by decide +kernel
theorem dX1_indexFor_13 : decode cX1_indexFor 13 = .ok (.iaload, 1) := by decide +kernel
theorem dX1_indexFor_14 : decode cX1_indexFor 14 = .ok (.iconst (-1), 1) := by decide +kernel
theorem dX1_indexFor_15 : decode cX1_indexFor 15 = .ok (.if_icmp .eq 11, 3) := by decide +kernel
theorem dX1_indexFor_18 : decode cX1_indexFor 18 = .ok (.aload_n 0, 1) := by decide +kernel
theorem dX1_indexFor_19 : decode cX1_indexFor 19 = .ok (.getfield 19, 3) := by decide +kernel
theorem dX1_indexFor_22 : decode cX1_indexFor 22 = .ok (.iload 5, 2) := by decide +kernel
theorem dX1_indexFor_24 : decode cX1_indexFor 24 = .ok (.iaload, 1) := by decide +kernel
theorem dX1_indexFor_25 : decode cX1_indexFor 25 = .ok (.ireturn, 1) := by decide +kernel
theorem dX1_indexFor_26 : decode cX1_indexFor 26 = .ok (.aload_n 0, 1) := by decide +kernel
theorem dX1_indexFor_27 : decode cX1_indexFor 27 = .ok (.getfield 58, 3) := by decide +kernel
theorem dX1_indexFor_30 : decode cX1_indexFor 30 = .ok (.sipush 300, 3) := by decide +kernel
theorem dX1_indexFor_33 : decode cX1_indexFor 33 = .ok (.if_icmp .lt 5, 3) := by decide +kernel
theorem dX1_indexFor_36 : decode cX1_indexFor 36 = .ok (.iconst (-1), 1) := by decide +kernel
theorem dX1_indexFor_37 : decode cX1_indexFor 37 = .ok (.ireturn, 1) := by decide +kernel
theorem dX1_indexFor_38 : decode cX1_indexFor 38 = .ok (.aload_n 0, 1) := by decide +kernel
theorem dX1_indexFor_39 : decode cX1_indexFor 39 = .ok (.getfield 58, 3) := by decide +kernel
theorem dX1_indexFor_42 : decode cX1_indexFor 42 = .ok (.istore 6, 2) := by decide +kernel
theorem dX1_indexFor_44 : decode cX1_indexFor 44 = .ok (.aload_n 0, 1) := by decide +kernel
theorem dX1_indexFor_45 : decode cX1_indexFor 45 = .ok (.getfield 19, 3) := by decide +kernel
theorem dX1_indexFor_48 : decode cX1_indexFor 48 = .ok (.iload 5, 2) := by decide +kernel
theorem dX1_indexFor_50 : decode cX1_indexFor 50 = .ok (.iload 6, 2) := by decide +kernel
theorem dX1_indexFor_52 : decode cX1_indexFor 52 = .ok (.iastore, 1) := by decide +kernel
theorem dX1_indexFor_53 : decode cX1_indexFor 53 = .ok (.aload_n 0, 1) := by decide +kernel
theorem dX1_indexFor_54 : decode cX1_indexFor 54 = .ok (.getfield 15, 3) := by decide +kernel
theorem dX1_indexFor_57 : decode cX1_indexFor 57 = .ok (.iload 6, 2) := by decide +kernel
theorem dX1_indexFor_59 : decode cX1_indexFor 59 = .ok (.lload_n 1, 1) := by decide +kernel
theorem dX1_indexFor_60 : decode cX1_indexFor 60 = .ok (.lastore, 1) := by decide +kernel
theorem dX1_indexFor_61 : decode cX1_indexFor 61 = .ok (.aload_n 0, 1) := by decide +kernel
theorem dX1_indexFor_62 : decode cX1_indexFor 62 = .ok (.getfield 23, 3) := by decide +kernel
theorem dX1_indexFor_65 : decode cX1_indexFor 65 = .ok (.iload 6, 2) := by decide +kernel
theorem dX1_indexFor_67 : decode cX1_indexFor 67 = .ok (.iload 4, 2) := by decide +kernel
theorem dX1_indexFor_69 : decode cX1_indexFor 69 = .ok (.iastore, 1) := by decide +kernel
theorem dX1_indexFor_70 : decode cX1_indexFor 70 = .ok (.aload_n 0, 1) := by decide +kernel
theorem dX1_indexFor_71 : decode cX1_indexFor 71 = .ok (.getfield 26, 3) := by decide +kernel
theorem dX1_indexFor_74 : decode cX1_indexFor 74 = .ok (.iload 6, 2) := by decide +kernel
theorem dX1_indexFor_76 : decode cX1_indexFor 76 = .ok (.iload_n 3, 1) := by decide +kernel
theorem dX1_indexFor_77 : decode cX1_indexFor 77 = .ok (.iastore, 1) := by decide +kernel
theorem dX1_indexFor_78 : decode cX1_indexFor 78 = .ok (.aload_n 0, 1) := by decide +kernel
theorem dX1_indexFor_79 : decode cX1_indexFor 79 = .ok (.getfield 32, 3) := by decide +kernel
theorem dX1_indexFor_82 : decode cX1_indexFor 82 = .ok (.iload 6, 2) := by decide +kernel
theorem dX1_indexFor_84 : decode cX1_indexFor 84 = .ok (.iconst (-1), 1) := by decide +kernel
theorem dX1_indexFor_85 : decode cX1_indexFor 85 = .ok (.iastore, 1) := by decide +kernel
theorem dX1_indexFor_86 : decode cX1_indexFor 86 = .ok (.aload_n 0, 1) := by decide +kernel
theorem dX1_indexFor_87 : decode cX1_indexFor 87 = .ok (.dup, 1) := by decide +kernel
theorem dX1_indexFor_88 : decode cX1_indexFor 88 = .ok (.getfield 58, 3) := by decide +kernel
theorem dX1_indexFor_91 : decode cX1_indexFor 91 = .ok (.iconst 1, 1) := by decide +kernel
theorem dX1_indexFor_92 : decode cX1_indexFor 92 = .ok (.iadd, 1) := by decide +kernel
theorem dX1_indexFor_93 : decode cX1_indexFor 93 = .ok (.putfield 58, 3) := by decide +kernel
theorem dX1_indexFor_96 : decode cX1_indexFor 96 = .ok (.iload 6, 2) := by decide +kernel
theorem dX1_indexFor_98 : decode cX1_indexFor 98 = .ok (.ireturn, 1) := by decide +kernel
theorem dX1_slotOf_0 : decode cX1_slotOf 0 = .ok (.lload_n 1, 1) := by decide +kernel
theorem dX1_slotOf_1 : decode cX1_slotOf 1 = .ok (.ldc2_w 102, 3) := by decide +kernel
theorem dX1_slotOf_4 : decode cX1_slotOf 4 = .ok (.lmul, 1) := by decide +kernel
theorem dX1_slotOf_5 : decode cX1_slotOf 5 = .ok (.bipush 54, 2) := by decide +kernel
theorem dX1_slotOf_7 : decode cX1_slotOf 7 = .ok (.lushr, 1) := by decide +kernel
theorem dX1_slotOf_8 : decode cX1_slotOf 8 = .ok (.l2i, 1) := by decide +kernel
theorem dX1_slotOf_9 : decode cX1_slotOf 9 = .ok (.istore_n 3, 1) := by decide +kernel
theorem dX1_slotOf_10 : decode cX1_slotOf 10 = .ok (.iconst 0, 1) := by decide +kernel
theorem dX1_slotOf_11 : decode cX1_slotOf 11 = .ok (.istore 4, 2) := by decide +kernel
theorem dX1_slotOf_13 : decode cX1_slotOf 13 = .ok (.iload 4, 2) := by decide +kernel
theorem dX1_slotOf_15 : decode cX1_slotOf 15 = .ok (.sipush 1024, 3) := by decide +kernel
theorem dX1_slotOf_18 : decode cX1_slotOf 18 = .ok (.if_icmp .ge 54, 3) := by decide +kernel
theorem dX1_slotOf_21 : decode cX1_slotOf 21 = .ok (.aload_n 0, 1) := by decide +kernel
theorem dX1_slotOf_22 : decode cX1_slotOf 22 = .ok (.getfield 19, 3) := by decide +kernel
theorem dX1_slotOf_25 : decode cX1_slotOf 25 = .ok (.iload_n 3, 1) := by decide +kernel
theorem dX1_slotOf_26 : decode cX1_slotOf 26 = .ok (.iaload, 1) := by decide +kernel
theorem dX1_slotOf_27 : decode cX1_slotOf 27 = .ok (.istore 5, 2) := by decide +kernel
theorem dX1_slotOf_29 : decode cX1_slotOf 29 = .ok (.iload 5, 2) := by decide +kernel
theorem dX1_slotOf_31 : decode cX1_slotOf 31 = .ok (.ifCond .lt 41, 3) := by decide +kernel
theorem dX1_slotOf_34 : decode cX1_slotOf 34 = .ok (.iload 5, 2) := by decide +kernel
theorem dX1_slotOf_36 : decode cX1_slotOf 36 = .ok (.aload_n 0, 1) := by decide +kernel
theorem dX1_slotOf_37 : decode cX1_slotOf 37 = .ok (.getfield 58, 3) := by decide +kernel
theorem dX1_slotOf_40 : decode cX1_slotOf 40 = .ok (.if_icmp .ge 32, 3) := by decide +kernel
theorem dX1_slotOf_43 : decode cX1_slotOf 43 = .ok (.aload_n 0, 1) := by decide +kernel
theorem dX1_slotOf_44 : decode cX1_slotOf 44 = .ok (.getfield 15, 3) := by decide +kernel
theorem dX1_slotOf_47 : decode cX1_slotOf 47 = .ok (.iload 5, 2) := by decide +kernel
theorem dX1_slotOf_49 : decode cX1_slotOf 49 = .ok (.laload, 1) := by decide +kernel
theorem dX1_slotOf_50 : decode cX1_slotOf 50 = .ok (.lload_n 1, 1) := by decide +kernel
theorem dX1_slotOf_51 : decode cX1_slotOf 51 = .ok (.lcmp, 1) := by decide +kernel
theorem dX1_slotOf_52 : decode cX1_slotOf 52 = .ok (.ifCond .ne 6, 3) := by decide +kernel
theorem dX1_slotOf_55 : decode cX1_slotOf 55 = .ok (.goto 17, 3) := by decide +kernel
theorem dX1_slotOf_58 : decode cX1_slotOf 58 = .ok (.iload_n 3, 1) := by decide +kernel
theorem dX1_slotOf_59 : decode cX1_slotOf 59 = .ok (.iconst 1, 1) := by decide +kernel
theorem dX1_slotOf_60 : decode cX1_slotOf 60 = .ok (.iadd, 1) := by decide +kernel
theorem dX1_slotOf_61 : decode cX1_slotOf 61 = .ok (.sipush 1023, 3) := by decide +kernel
theorem dX1_slotOf_64 : decode cX1_slotOf 64 = .ok (.iand, 1) := by decide +kernel
theorem dX1_slotOf_65 : decode cX1_slotOf 65 = .ok (.istore_n 3, 1) := by decide +kernel
theorem dX1_slotOf_66 : decode cX1_slotOf 66 = .ok (.iinc 4 1, 3) := by decide +kernel
theorem dX1_slotOf_69 : decode cX1_slotOf 69 = .ok (.goto (-56), 3) := by decide +kernel
theorem dX1_slotOf_72 : decode cX1_slotOf 72 = .ok (.iload_n 3, 1) := by decide +kernel
theorem dX1_slotOf_73 : decode cX1_slotOf 73 = .ok (.ireturn, 1) := by decide +kernel
theorem dX1_markingAt_0 : decode cX1_markingAt 0 = .ok (.iload_n 1, 1) := by decide +kernel
theorem dX1_markingAt_1 : decode cX1_markingAt 1 = .ok (.ifCond .lt 20, 3) := by decide +kernel
theorem dX1_markingAt_4 : decode cX1_markingAt 4 = .ok (.iload_n 1, 1) := by decide +kernel
theorem dX1_markingAt_5 : decode cX1_markingAt 5 = .ok (.aload_n 0, 1) := by decide +kernel
theorem dX1_markingAt_6 : decode cX1_markingAt 6 = .ok (.getfield 58, 3) := by decide +kernel
theorem dX1_markingAt_9 : decode cX1_markingAt 9 = .ok (.if_icmp .ge 12, 3) := by decide +kernel
theorem dX1_markingAt_12 : decode cX1_markingAt 12 = .ok (.aload_n 0, 1) := by decide +kernel
theorem dX1_markingAt_13 : decode cX1_markingAt 13 = .ok (.getfield 15, 3) := by decide +kernel
theorem dX1_markingAt_16 : decode cX1_markingAt 16 = .ok (.iload_n 1, 1) := by decide +kernel
theorem dX1_markingAt_17 : decode cX1_markingAt 17 = .ok (.laload, 1) := by decide +kernel
theorem dX1_markingAt_18 : decode cX1_markingAt 18 = .ok (.goto 4, 3) := by decide +kernel
theorem dX1_markingAt_21 : decode cX1_markingAt 21 = .ok (.lconst 0, 1) := by decide +kernel
theorem dX1_markingAt_22 : decode cX1_markingAt 22 = .ok (.lreturn, 1) := by decide +kernel
theorem dX1_tokensAt_0 : decode cX1_tokensAt 0 = .ok (.aload_n 0, 1) := by decide +kernel
theorem dX1_tokensAt_1 : decode cX1_tokensAt 1 = .ok (.iload_n 1, 1) := by decide +kernel
theorem dX1_tokensAt_2 : decode cX1_tokensAt 2 = .ok (.invokevirtual 104, 3) := by decide +kernel
theorem dX1_tokensAt_5 : decode cX1_tokensAt 5 = .ok (.iload_n 2, 1) := by decide +kernel
theorem dX1_tokensAt_6 : decode cX1_tokensAt 6 = .ok (.invokestatic 108, 3) := by decide +kernel
theorem dX1_tokensAt_9 : decode cX1_tokensAt 9 = .ok (.ireturn, 1) := by decide +kernel
theorem dX1_target_0 : decode cX1_target 0 = .ok (.iload_n 1, 1) := by decide +kernel
theorem dX1_target_1 : decode cX1_target 1 = .ok (.bipush 8, 2) := by decide +kernel
theorem dX1_target_3 : decode cX1_target 3 = .ok (.imul, 1) := by decide +kernel
theorem dX1_target_4 : decode cX1_target 4 = .ok (.iload_n 2, 1) := by decide +kernel
theorem dX1_target_5 : decode cX1_target 5 = .ok (.iadd, 1) := by decide +kernel
theorem dX1_target_6 : decode cX1_target 6 = .ok (.istore_n 3, 1) := by decide +kernel
theorem dX1_target_7 : decode cX1_target 7 = .ok (.iload_n 3, 1) := by decide +kernel
theorem dX1_target_8 : decode cX1_target 8 = .ok (.ifCond .lt 19, 3) := by decide +kernel
theorem dX1_target_11 : decode cX1_target 11 = .ok (.iload_n 3, 1) := by decide +kernel
theorem dX1_target_12 : decode cX1_target 12 = .ok (.sipush 2400, 3) := by decide +kernel
theorem dX1_target_15 : decode cX1_target 15 = .ok (.if_icmp .ge 12, 3) := by decide +kernel
theorem dX1_target_18 : decode cX1_target 18 = .ok (.aload_n 0, 1) := by decide +kernel
theorem dX1_target_19 : decode cX1_target 19 = .ok (.getfield 29, 3) := by decide +kernel
theorem dX1_target_22 : decode cX1_target 22 = .ok (.iload_n 3, 1) := by decide +kernel
theorem dX1_target_23 : decode cX1_target 23 = .ok (.iaload, 1) := by decide +kernel
theorem dX1_target_24 : decode cX1_target 24 = .ok (.goto 4, 3) := by decide +kernel
theorem dX1_target_27 : decode cX1_target 27 = .ok (.iconst (-1), 1) := by decide +kernel
theorem dX1_target_28 : decode cX1_target 28 = .ok (.ireturn, 1) := by decide +kernel
theorem dX1_mostAt_0 : decode cX1_mostAt 0 = .ok (.iconst 0, 1) := by decide +kernel
theorem dX1_mostAt_1 : decode cX1_mostAt 1 = .ok (.istore_n 2, 1) := by decide +kernel
theorem dX1_mostAt_2 : decode cX1_mostAt 2 = .ok (.iconst 0, 1) := by decide +kernel
theorem dX1_mostAt_3 : decode cX1_mostAt 3 = .ok (.istore_n 3, 1) := by decide +kernel
theorem dX1_mostAt_4 : decode cX1_mostAt 4 = .ok (.iload_n 3, 1) := by decide +kernel
theorem dX1_mostAt_5 : decode cX1_mostAt 5 = .ok (.aload_n 0, 1) := by decide +kernel
theorem dX1_mostAt_6 : decode cX1_mostAt 6 = .ok (.getfield 58, 3) := by decide +kernel
theorem dX1_mostAt_9 : decode cX1_mostAt 9 = .ok (.if_icmp .ge 20, 3) := by decide +kernel
theorem dX1_mostAt_12 : decode cX1_mostAt 12 = .ok (.iload_n 2, 1) := by decide +kernel
theorem dX1_mostAt_13 : decode cX1_mostAt 13 = .ok (.aload_n 0, 1) := by decide +kernel
theorem dX1_mostAt_14 : decode cX1_mostAt 14 = .ok (.iload_n 3, 1) := by decide +kernel
theorem dX1_mostAt_15 : decode cX1_mostAt 15 = .ok (.iload_n 1, 1) := by decide +kernel
theorem dX1_mostAt_16 : decode cX1_mostAt 16 = .ok (.invokevirtual 112, 3) := by decide +kernel
theorem dX1_mostAt_19 : decode cX1_mostAt 19 = .ok (.invokestatic 116, 3) := by decide +kernel
theorem dX1_mostAt_22 : decode cX1_mostAt 22 = .ok (.istore_n 2, 1) := by decide +kernel
theorem dX1_mostAt_23 : decode cX1_mostAt 23 = .ok (.iinc 3 1, 3) := by decide +kernel
theorem dX1_mostAt_26 : decode cX1_mostAt 26 = .ok (.goto (-22), 3) := by decide +kernel
theorem dX1_mostAt_29 : decode cX1_mostAt 29 = .ok (.iload_n 2, 1) := by decide +kernel
theorem dX1_mostAt_30 : decode cX1_mostAt 30 = .ok (.ireturn, 1) := by decide +kernel
theorem dX1_isHome_0 : decode cX1_isHome 0 = .ok (.aload_n 0, 1) := by decide +kernel
theorem dX1_isHome_1 : decode cX1_isHome 1 = .ok (.invokevirtual 121, 3) := by decide +kernel
theorem dX1_isHome_4 : decode cX1_isHome 4 = .ok (.aload_n 0, 1) := by decide +kernel
theorem dX1_isHome_5 : decode cX1_isHome 5 = .ok (.iconst 0, 1) := by decide +kernel
theorem dX1_isHome_6 : decode cX1_isHome 6 = .ok (.invokevirtual 124, 3) := by decide +kernel
theorem dX1_isHome_9 : decode cX1_isHome 9 = .ok (.aload_n 0, 1) := by decide +kernel
theorem dX1_isHome_10 : decode cX1_isHome 10 = .ok (.invokevirtual 127, 3) := by decide +kernel
theorem dX1_isHome_13 : decode cX1_isHome 13 = .ok (.ireturn, 1) := by decide +kernel
theorem dX1_levelOf_0 : decode cX1_levelOf 0 = .ok (.aload_n 0, 1) := by decide +kernel
theorem dX1_levelOf_1 : decode cX1_levelOf 1 = .ok (.invokevirtual 121, 3) := by decide +kernel
theorem dX1_levelOf_4 : decode cX1_levelOf 4 = .ok (.iconst 0, 1) := by decide +kernel
theorem dX1_levelOf_5 : decode cX1_levelOf 5 = .ok (.istore_n 2, 1) := by decide +kernel
theorem dX1_levelOf_6 : decode cX1_levelOf 6 = .ok (.iload_n 2, 1) := by decide +kernel
theorem dX1_levelOf_7 : decode cX1_levelOf 7 = .ok (.aload_n 0, 1) := by decide +kernel
theorem dX1_levelOf_8 : decode cX1_levelOf 8 = .ok (.getfield 58, 3) := by decide +kernel
theorem dX1_levelOf_11 : decode cX1_levelOf 11 = .ok (.if_icmp .ge 24, 3) := by decide +kernel
theorem dX1_levelOf_14 : decode cX1_levelOf 14 = .ok (.aload_n 0, 1) := by decide +kernel
theorem dX1_levelOf_15 : decode cX1_levelOf 15 = .ok (.iload_n 2, 1) := by decide +kernel
theorem dX1_levelOf_16 : decode cX1_levelOf 16 = .ok (.iload_n 1, 1) := by decide +kernel
theorem dX1_levelOf_17 : decode cX1_levelOf 17 = .ok (.invokevirtual 131, 3) := by decide +kernel
theorem dX1_levelOf_20 : decode cX1_levelOf 20 = .ok (.iconst (-1), 1) := by decide +kernel
theorem dX1_levelOf_21 : decode cX1_levelOf 21 = .ok (.if_icmp .eq 8, 3) := by decide +kernel
theorem dX1_levelOf_24 : decode cX1_levelOf 24 = .ok (.aload_n 0, 1) := by decide +kernel
theorem dX1_levelOf_25 : decode cX1_levelOf 25 = .ok (.iload_n 2, 1) := by decide +kernel
theorem dX1_levelOf_26 : decode cX1_levelOf 26 = .ok (.invokevirtual 124, 3) := by decide +kernel
theorem dX1_levelOf_29 : decode cX1_levelOf 29 = .ok (.iinc 2 1, 3) := by decide +kernel
theorem dX1_levelOf_32 : decode cX1_levelOf 32 = .ok (.goto (-26), 3) := by decide +kernel
theorem dX1_levelOf_35 : decode cX1_levelOf 35 = .ok (.aload_n 0, 1) := by decide +kernel
theorem dX1_levelOf_36 : decode cX1_levelOf 36 = .ok (.getfield 134, 3) := by decide +kernel
theorem dX1_levelOf_39 : decode cX1_levelOf 39 = .ok (.ifCond .ne 5, 3) := by decide +kernel
theorem dX1_levelOf_42 : decode cX1_levelOf 42 = .ok (.iconst 0, 1) := by decide +kernel
theorem dX1_levelOf_43 : decode cX1_levelOf 43 = .ok (.ireturn, 1) := by decide +kernel
theorem dX1_levelOf_44 : decode cX1_levelOf 44 = .ok (.aload_n 0, 1) := by decide +kernel
theorem dX1_levelOf_45 : decode cX1_levelOf 45 = .ok (.invokevirtual 127, 3) := by decide +kernel
theorem dX1_levelOf_48 : decode cX1_levelOf 48 = .ok (.ifCond .eq 7, 3) := by decide +kernel
theorem dX1_levelOf_51 : decode cX1_levelOf 51 = .ok (.iconst 2, 1) := by decide +kernel
theorem dX1_levelOf_52 : decode cX1_levelOf 52 = .ok (.goto 4, 3) := by decide +kernel
theorem dX1_levelOf_55 : decode cX1_levelOf 55 = .ok (.iconst 1, 1) := by decide +kernel
theorem dX1_levelOf_56 : decode cX1_levelOf 56 = .ok (.ireturn, 1) := by decide +kernel
theorem dX1_unmarkAll_0 : decode cX1_unmarkAll 0 = .ok (.aload_n 0, 1) := by decide +kernel
theorem dX1_unmarkAll_1 : decode cX1_unmarkAll 1 = .ok (.iconst 0, 1) := by decide +kernel
theorem dX1_unmarkAll_2 : decode cX1_unmarkAll 2 = .ok (.putfield 134, 3) := by decide +kernel
theorem dX1_unmarkAll_5 : decode cX1_unmarkAll 5 = .ok (.iconst 0, 1) := by decide +kernel
theorem dX1_unmarkAll_6 : decode cX1_unmarkAll 6 = .ok (.istore_n 1, 1) := by decide +kernel
theorem dX1_unmarkAll_7 : decode cX1_unmarkAll 7 = .ok (.iload_n 1, 1) := by decide +kernel
theorem dX1_unmarkAll_8 : decode cX1_unmarkAll 8 = .ok (.sipush 300, 3) := by decide +kernel
theorem dX1_unmarkAll_11 : decode cX1_unmarkAll 11 = .ok (.if_icmp .ge 16, 3) := by decide +kernel
theorem dX1_unmarkAll_14 : decode cX1_unmarkAll 14 = .ok (.aload_n 0, 1) := by decide +kernel
theorem dX1_unmarkAll_15 : decode cX1_unmarkAll 15 = .ok (.getfield 38, 3) := by decide +kernel
theorem dX1_unmarkAll_18 : decode cX1_unmarkAll 18 = .ok (.iload_n 1, 1) := by decide +kernel
theorem dX1_unmarkAll_19 : decode cX1_unmarkAll 19 = .ok (.iconst 0, 1) := by decide +kernel
theorem dX1_unmarkAll_20 : decode cX1_unmarkAll 20 = .ok (.bastore, 1) := by decide +kernel
theorem dX1_unmarkAll_21 : decode cX1_unmarkAll 21 = .ok (.iinc 1 1, 3) := by decide +kernel
theorem dX1_unmarkAll_24 : decode cX1_unmarkAll 24 = .ok (.goto (-17), 3) := by decide +kernel
theorem dX1_unmarkAll_27 : decode cX1_unmarkAll 27 = .ok (.return_, 1) := by decide +kernel
theorem dX1_mark_0 : decode cX1_mark 0 = .ok (.iload_n 1, 1) := by decide +kernel
theorem dX1_mark_1 : decode cX1_mark 1 = .ok (.ifCond .lt 56, 3) := by decide +kernel
theorem dX1_mark_4 : decode cX1_mark 4 = .ok (.iload_n 1, 1) := by decide +kernel
theorem dX1_mark_5 : decode cX1_mark 5 = .ok (.sipush 300, 3) := by decide +kernel
theorem dX1_mark_8 : decode cX1_mark 8 = .ok (.if_icmp .ge 49, 3) := by decide +kernel
theorem dX1_mark_11 : decode cX1_mark 11 = .ok (.aload_n 0, 1) := by decide +kernel
theorem dX1_mark_12 : decode cX1_mark 12 = .ok (.getfield 134, 3) := by decide +kernel
theorem dX1_mark_15 : decode cX1_mark 15 = .ok (.sipush 300, 3) := by decide +kernel
theorem dX1_mark_18 : decode cX1_mark 18 = .ok (.if_icmp .ge 39, 3) := by decide +kernel
theorem dX1_mark_21 : decode cX1_mark 21 = .ok (.aload_n 0, 1) := by decide +kernel
theorem dX1_mark_22 : decode cX1_mark 22 = .ok (.getfield 38, 3) := by decide +kernel
theorem dX1_mark_25 : decode cX1_mark 25 = .ok (.iload_n 1, 1) := by decide +kernel
theorem dX1_mark_26 : decode cX1_mark 26 = .ok (.baload, 1) := by decide +kernel
theorem dX1_mark_27 : decode cX1_mark 27 = .ok (.ifCond .ne 30, 3) := by decide +kernel
theorem dX1_mark_30 : decode cX1_mark 30 = .ok (.aload_n 0, 1) := by decide +kernel
theorem dX1_mark_31 : decode cX1_mark 31 = .ok (.getfield 38, 3) := by decide +kernel
theorem dX1_mark_34 : decode cX1_mark 34 = .ok (.iload_n 1, 1) := by decide +kernel
theorem dX1_mark_35 : decode cX1_mark 35 = .ok (.iconst 1, 1) := by decide +kernel
theorem dX1_mark_36 : decode cX1_mark 36 = .ok (.bastore, 1) := by decide +kernel
theorem dX1_mark_37 : decode cX1_mark 37 = .ok (.aload_n 0, 1) := by decide +kernel
theorem dX1_mark_38 : decode cX1_mark 38 = .ok (.getfield 42, 3) := by decide +kernel
theorem dX1_mark_41 : decode cX1_mark 41 = .ok (.aload_n 0, 1) := by decide +kernel
theorem dX1_mark_42 : decode cX1_mark 42 = .ok (.getfield 134, 3) := by decide +kernel
theorem dX1_mark_45 : decode cX1_mark 45 = .ok (.iload_n 1, 1) := by decide +kernel
theorem dX1_mark_46 : decode cX1_mark 46 = .ok (.iastore, 1) := by decide +kernel
theorem dX1_mark_47 : decode cX1_mark 47 = .ok (.aload_n 0, 1) := by decide +kernel
theorem dX1_mark_48 : decode cX1_mark 48 = .ok (.dup, 1) := by decide +kernel
theorem dX1_mark_49 : decode cX1_mark 49 = .ok (.getfield 134, 3) := by decide +kernel
theorem dX1_mark_52 : decode cX1_mark 52 = .ok (.iconst 1, 1) := by decide +kernel
theorem dX1_mark_53 : decode cX1_mark 53 = .ok (.iadd, 1) := by decide +kernel
theorem dX1_mark_54 : decode cX1_mark 54 = .ok (.putfield 134, 3) := by decide +kernel
theorem dX1_mark_57 : decode cX1_mark 57 = .ok (.return_, 1) := by decide +kernel
theorem dX1_allComeToMarked_0 : decode cX1_allComeToMarked 0 = .ok (.iconst 0, 1) := by decide +kernel
theorem dX1_allComeToMarked_1 : decode cX1_allComeToMarked 1 = .ok (.istore_n 1, 1) := by decide +kernel
theorem dX1_allComeToMarked_2 : decode cX1_allComeToMarked 2 = .ok (.iload_n 1, 1) := by decide +kernel
theorem dX1_allComeToMarked_3 : decode cX1_allComeToMarked 3 = .ok (.sipush 300, 3) := by decide +kernel
theorem dX1_allComeToMarked_6 : decode cX1_allComeToMarked 6 = .ok (.if_icmp .ge 70, 3) := by decide +kernel
theorem dX1_allComeToMarked_9 : decode cX1_allComeToMarked 9 = .ok (.iload_n 1, 1) := by decide +kernel
theorem dX1_allComeToMarked_10 : decode cX1_allComeToMarked 10 = .ok (.aload_n 0, 1) := by decide +kernel
theorem dX1_allComeToMarked_11 : decode cX1_allComeToMarked 11 = .ok (.getfield 134, 3) := by decide +kernel
theorem dX1_allComeToMarked_14 : decode cX1_allComeToMarked 14 = .ok (.if_icmp .ge 62, 3) := by decide +kernel
theorem dX1_allComeToMarked_17 : decode cX1_allComeToMarked 17 = .ok (.aload_n 0, 1) := by decide +kernel
theorem dX1_allComeToMarked_18 : decode cX1_allComeToMarked 18 = .ok (.getfield 32, 3) := by decide +kernel
theorem dX1_allComeToMarked_21 : decode cX1_allComeToMarked 21 = .ok (.aload_n 0, 1) := by decide +kernel
theorem dX1_allComeToMarked_22 : decode cX1_allComeToMarked 22 = .ok (.getfield 42, 3) := by decide +kernel
theorem dX1_allComeToMarked_25 : decode cX1_allComeToMarked 25 = .ok (.iload_n 1, 1) := by decide +kernel
theorem dX1_allComeToMarked_26 : decode cX1_allComeToMarked 26 = .ok (.iaload, 1) := by decide +kernel
theorem dX1_allComeToMarked_27 : decode cX1_allComeToMarked 27 = .ok (.iaload, 1) := by decide +kernel
theorem dX1_allComeToMarked_28 : decode cX1_allComeToMarked 28 = .ok (.istore_n 2, 1) := by decide +kernel
theorem dX1_allComeToMarked_29 : decode cX1_allComeToMarked 29 = .ok (.iconst 0, 1) := by decide +kernel
theorem dX1_allComeToMarked_30 : decode cX1_allComeToMarked 30 = .ok (.istore_n 3, 1) := by decide +kernel
theorem dX1_allComeToMarked_31 : decode cX1_allComeToMarked 31 = .ok (.iload_n 3, 1) := by decide +kernel
theorem dX1_allComeToMarked_32 : decode cX1_allComeToMarked 32 = .ok (.sipush 2400, 3) := by decide +kernel
theorem dX1_allComeToMarked_35 : decode cX1_allComeToMarked 35 = .ok (.if_icmp .ge 35, 3) := by decide +kernel
theorem dX1_allComeToMarked_38 : decode cX1_allComeToMarked 38 = .ok (.iload_n 2, 1) := by decide +kernel
theorem dX1_allComeToMarked_39 : decode cX1_allComeToMarked 39 = .ok (.ifCond .lt 31, 3) := by decide +kernel
theorem dX1_allComeToMarked_42 : decode cX1_allComeToMarked 42 = .ok (.iload_n 2, 1) := by decide +kernel
theorem dX1_allComeToMarked_43 : decode cX1_allComeToMarked 43 = .ok (.sipush 2400, 3) := by decide +kernel
theorem dX1_allComeToMarked_46 : decode cX1_allComeToMarked 46 = .ok (.if_icmp .ge 24, 3) := by decide +kernel
theorem dX1_allComeToMarked_49 : decode cX1_allComeToMarked 49 = .ok (.aload_n 0, 1) := by decide +kernel
theorem dX1_allComeToMarked_50 : decode cX1_allComeToMarked 50 = .ok (.iload_n 2, 1) := by decide +kernel
theorem dX1_allComeToMarked_51 : decode cX1_allComeToMarked 51 = .ok (.bipush 8, 2) := by decide +kernel
theorem dX1_allComeToMarked_53 : decode cX1_allComeToMarked 53 = .ok (.idiv, 1) := by decide +kernel
theorem dX1_allComeToMarked_54 : decode cX1_allComeToMarked 54 = .ok (.invokevirtual 124, 3) := by decide +kernel
theorem dX1_allComeToMarked_57 : decode cX1_allComeToMarked 57 = .ok (.aload_n 0, 1) := by decide +kernel
theorem dX1_allComeToMarked_58 : decode cX1_allComeToMarked 58 = .ok (.getfield 35, 3) := by decide +kernel
theorem dX1_allComeToMarked_61 : decode cX1_allComeToMarked 61 = .ok (.iload_n 2, 1) := by decide +kernel
theorem dX1_allComeToMarked_62 : decode cX1_allComeToMarked 62 = .ok (.iaload, 1) := by decide +kernel
theorem dX1_allComeToMarked_63 : decode cX1_allComeToMarked 63 = .ok (.istore_n 2, 1) := by decide +kernel
theorem dX1_allComeToMarked_64 : decode cX1_allComeToMarked 64 = .ok (.iinc 3 1, 3) := by decide +kernel
theorem dX1_allComeToMarked_67 : decode cX1_allComeToMarked 67 = .ok (.goto (-36), 3) := by decide +kernel
theorem dX1_allComeToMarked_70 : decode cX1_allComeToMarked 70 = .ok (.iinc 1 1, 3) := by decide +kernel
theorem dX1_allComeToMarked_73 : decode cX1_allComeToMarked 73 = .ok (.goto (-71), 3) := by decide +kernel
theorem dX1_allComeToMarked_76 : decode cX1_allComeToMarked 76 = .ok (.aload_n 0, 1) := by decide +kernel
theorem dX1_allComeToMarked_77 : decode cX1_allComeToMarked 77 = .ok (.getfield 134, 3) := by decide +kernel
theorem dX1_allComeToMarked_80 : decode cX1_allComeToMarked 80 = .ok (.aload_n 0, 1) := by decide +kernel
theorem dX1_allComeToMarked_81 : decode cX1_allComeToMarked 81 = .ok (.getfield 58, 3) := by decide +kernel
theorem dX1_allComeToMarked_84 : decode cX1_allComeToMarked 84 = .ok (.if_icmp .ne 7, 3) := by decide +kernel
theorem dX1_allComeToMarked_87 : decode cX1_allComeToMarked 87 = .ok (.iconst 1, 1) := by decide +kernel
theorem dX1_allComeToMarked_88 : decode cX1_allComeToMarked 88 = .ok (.goto 4, 3) := by decide +kernel
theorem dX1_allComeToMarked_91 : decode cX1_allComeToMarked 91 = .ok (.iconst 0, 1) := by decide +kernel
theorem dX1_allComeToMarked_92 : decode cX1_allComeToMarked 92 = .ok (.ireturn, 1) := by decide +kernel
theorem dX1_firstWith_0 : decode cX1_firstWith 0 = .ok (.iconst 0, 1) := by decide +kernel
theorem dX1_firstWith_1 : decode cX1_firstWith 1 = .ok (.istore_n 3, 1) := by decide +kernel
theorem dX1_firstWith_2 : decode cX1_firstWith 2 = .ok (.iload_n 3, 1) := by decide +kernel
theorem dX1_firstWith_3 : decode cX1_firstWith 3 = .ok (.aload_n 0, 1) := by decide +kernel
theorem dX1_firstWith_4 : decode cX1_firstWith 4 = .ok (.getfield 58, 3) := by decide +kernel
theorem dX1_firstWith_7 : decode cX1_firstWith 7 = .ok (.if_icmp .ge 21, 3) := by decide +kernel
theorem dX1_firstWith_10 : decode cX1_firstWith 10 = .ok (.aload_n 0, 1) := by decide +kernel
theorem dX1_firstWith_11 : decode cX1_firstWith 11 = .ok (.iload_n 3, 1) := by decide +kernel
theorem dX1_firstWith_12 : decode cX1_firstWith 12 = .ok (.iload_n 1, 1) := by decide +kernel
theorem dX1_firstWith_13 : decode cX1_firstWith 13 = .ok (.invokevirtual 112, 3) := by decide +kernel
theorem dX1_firstWith_16 : decode cX1_firstWith 16 = .ok (.iload_n 2, 1) := by decide +kernel
theorem dX1_firstWith_17 : decode cX1_firstWith 17 = .ok (.if_icmp .lt 5, 3) := by decide +kernel
theorem dX1_firstWith_20 : decode cX1_firstWith 20 = .ok (.iload_n 3, 1) := by decide +kernel
theorem dX1_firstWith_21 : decode cX1_firstWith 21 = .ok (.ireturn, 1) := by decide +kernel
theorem dX1_firstWith_22 : decode cX1_firstWith 22 = .ok (.iinc 3 1, 3) := by decide +kernel
theorem dX1_firstWith_25 : decode cX1_firstWith 25 = .ok (.goto (-23), 3) := by decide +kernel
theorem dX1_firstWith_28 : decode cX1_firstWith 28 = .ok (.iconst (-1), 1) := by decide +kernel
theorem dX1_firstWith_29 : decode cX1_firstWith 29 = .ok (.ireturn, 1) := by decide +kernel
theorem dX1_depthOf_0 : decode cX1_depthOf 0 = .ok (.iload_n 1, 1) := by decide +kernel
theorem dX1_depthOf_1 : decode cX1_depthOf 1 = .ok (.ifCond .lt 20, 3) := by decide +kernel
theorem dX1_depthOf_4 : decode cX1_depthOf 4 = .ok (.iload_n 1, 1) := by decide +kernel
theorem dX1_depthOf_5 : decode cX1_depthOf 5 = .ok (.aload_n 0, 1) := by decide +kernel
theorem dX1_depthOf_6 : decode cX1_depthOf 6 = .ok (.getfield 58, 3) := by decide +kernel
theorem dX1_depthOf_9 : decode cX1_depthOf 9 = .ok (.if_icmp .ge 12, 3) := by decide +kernel
theorem dX1_depthOf_12 : decode cX1_depthOf 12 = .ok (.aload_n 0, 1) := by decide +kernel
theorem dX1_depthOf_13 : decode cX1_depthOf 13 = .ok (.getfield 23, 3) := by decide +kernel
theorem dX1_depthOf_16 : decode cX1_depthOf 16 = .ok (.iload_n 1, 1) := by decide +kernel
theorem dX1_depthOf_17 : decode cX1_depthOf 17 = .ok (.iaload, 1) := by decide +kernel
theorem dX1_depthOf_18 : decode cX1_depthOf 18 = .ok (.goto 4, 3) := by decide +kernel
theorem dX1_depthOf_21 : decode cX1_depthOf 21 = .ok (.iconst (-1), 1) := by decide +kernel
theorem dX1_depthOf_22 : decode cX1_depthOf 22 = .ok (.ireturn, 1) := by decide +kernel
theorem dX1_edgeTo_0 : decode cX1_edgeTo 0 = .ok (.iload_n 1, 1) := by decide +kernel
theorem dX1_edgeTo_1 : decode cX1_edgeTo 1 = .ok (.ifCond .lt 20, 3) := by decide +kernel
theorem dX1_edgeTo_4 : decode cX1_edgeTo 4 = .ok (.iload_n 1, 1) := by decide +kernel
theorem dX1_edgeTo_5 : decode cX1_edgeTo 5 = .ok (.aload_n 0, 1) := by decide +kernel
theorem dX1_edgeTo_6 : decode cX1_edgeTo 6 = .ok (.getfield 58, 3) := by decide +kernel
theorem dX1_edgeTo_9 : decode cX1_edgeTo 9 = .ok (.if_icmp .ge 12, 3) := by decide +kernel
theorem dX1_edgeTo_12 : decode cX1_edgeTo 12 = .ok (.aload_n 0, 1) := by decide +kernel
theorem dX1_edgeTo_13 : decode cX1_edgeTo 13 = .ok (.getfield 26, 3) := by decide +kernel
theorem dX1_edgeTo_16 : decode cX1_edgeTo 16 = .ok (.iload_n 1, 1) := by decide +kernel
theorem dX1_edgeTo_17 : decode cX1_edgeTo 17 = .ok (.iaload, 1) := by decide +kernel
theorem dX1_edgeTo_18 : decode cX1_edgeTo 18 = .ok (.goto 4, 3) := by decide +kernel
theorem dX1_edgeTo_21 : decode cX1_edgeTo 21 = .ok (.iconst (-1), 1) := by decide +kernel
theorem dX1_edgeTo_22 : decode cX1_edgeTo 22 = .ok (.ireturn, 1) := by decide +kernel
theorem dX1_firingTowards_0 : decode cX1_firingTowards 0 = .ok (.aload_n 0, 1) := by decide +kernel
theorem dX1_firingTowards_1 : decode cX1_firingTowards 1 = .ok (.iload_n 1, 1) := by decide +kernel
theorem dX1_firingTowards_2 : decode cX1_firingTowards 2 = .ok (.invokevirtual 137, 3) := by decide +kernel
theorem dX1_firingTowards_5 : decode cX1_firingTowards 5 = .ok (.istore_n 3, 1) := by decide +kernel
theorem dX1_firingTowards_6 : decode cX1_firingTowards 6 = .ok (.iload_n 2, 1) := by decide +kernel
theorem dX1_firingTowards_7 : decode cX1_firingTowards 7 = .ok (.iload_n 3, 1) := by decide +kernel
theorem dX1_firingTowards_8 : decode cX1_firingTowards 8 = .ok (.if_icmp .lt 5, 3) := by decide +kernel
theorem dX1_firingTowards_11 : decode cX1_firingTowards 11 = .ok (.iconst (-1), 1) := by decide +kernel
theorem dX1_firingTowards_12 : decode cX1_firingTowards 12 = .ok (.ireturn, 1) := by decide +kernel
theorem dX1_firingTowards_13 : decode cX1_firingTowards 13 = .ok (.aload_n 0, 1) := by decide +kernel
theorem dX1_firingTowards_14 : decode cX1_firingTowards 14 = .ok (.iload_n 1, 1) := by decide +kernel
theorem dX1_firingTowards_15 : decode cX1_firingTowards 15 = .ok (.invokevirtual 141, 3) := by decide +kernel
theorem dX1_firingTowards_18 : decode cX1_firingTowards 18 = .ok (.istore 4, 2) := by decide +kernel
theorem dX1_firingTowards_20 : decode cX1_firingTowards 20 = .ok (.iload_n 3, 1) := by decide +kernel
theorem dX1_firingTowards_21 : decode cX1_firingTowards 21 = .ok (.iconst 1, 1) := by decide +kernel
theorem dX1_firingTowards_22 : decode cX1_firingTowards 22 = .ok (.isub, 1) := by decide +kernel
theorem dX1_firingTowards_23 : decode cX1_firingTowards 23 = .ok (.istore 5, 2) := by decide +kernel
theorem dX1_firingTowards_25 : decode cX1_firingTowards 25 = .ok (.iload 5, 2) := by decide +kernel
theorem dX1_firingTowards_27 : decode cX1_firingTowards 27 = .ok (.iload_n 2, 1) := by decide +kernel
theorem dX1_firingTowards_28 : decode cX1_firingTowards 28 = .ok (.if_icmp .le 20, 3) := by decide +kernel
theorem dX1_firingTowards_31 : decode cX1_firingTowards 31 = .ok (.aload_n 0, 1) := by decide +kernel
theorem dX1_firingTowards_32 : decode cX1_firingTowards 32 = .ok (.iload 4, 2) := by decide +kernel
theorem dX1_firingTowards_34 : decode cX1_firingTowards 34 = .ok (.bipush 8, 2) := by decide +kernel
theorem dX1_firingTowards_36 : decode cX1_firingTowards 36 = .ok (.idiv, 1) := by decide +kernel
theorem dX1_firingTowards_37 : decode cX1_firingTowards 37 = .ok (.invokevirtual 141, 3) := by decide +kernel
theorem dX1_firingTowards_40 : decode cX1_firingTowards 40 = .ok (.istore 4, 2) := by decide +kernel
theorem dX1_firingTowards_42 : decode cX1_firingTowards 42 = .ok (.iinc 5 (-1), 3) := by decide +kernel
theorem dX1_firingTowards_45 : decode cX1_firingTowards 45 = .ok (.goto (-20), 3) := by decide +kernel
theorem dX1_firingTowards_48 : decode cX1_firingTowards 48 = .ok (.iload 4, 2) := by decide +kernel
theorem dX1_firingTowards_50 : decode cX1_firingTowards 50 = .ok (.bipush 8, 2) := by decide +kernel
theorem dX1_firingTowards_52 : decode cX1_firingTowards 52 = .ok (.irem, 1) := by decide +kernel
theorem dX1_firingTowards_53 : decode cX1_firingTowards 53 = .ok (.ireturn, 1) := by decide +kernel
theorem dX2_init_0 : decode cX2_init 0 = .ok (.aload_n 0, 1) := by decide +kernel
theorem dX2_init_1 : decode cX2_init 1 = .ok (.invokespecial 3, 3) := by decide +kernel
theorem dX2_init_4 : decode cX2_init 4 = .ok (.aload_n 0, 1) := by decide +kernel
theorem dX2_init_5 : decode cX2_init 5 = .ok (.aload_n 1, 1) := by decide +kernel
theorem dX2_init_6 : decode cX2_init 6 = .ok (.putfield 9, 3) := by decide +kernel
theorem dX2_init_9 : decode cX2_init 9 = .ok (.aload_n 0, 1) := by decide +kernel
theorem dX2_init_10 : decode cX2_init 10 = .ok (.aload_n 2, 1) := by decide +kernel
theorem dX2_init_11 : decode cX2_init 11 = .ok (.putfield 15, 3) := by decide +kernel
theorem dX2_init_14 : decode cX2_init 14 = .ok (.aload_n 0, 1) := by decide +kernel
theorem dX2_init_15 : decode cX2_init 15 = .ok (.bipush 10, 2) := by decide +kernel
theorem dX2_init_17 : decode cX2_init 17 = .ok (.newarray .int, 2) := by decide +kernel
theorem dX2_init_19 : decode cX2_init 19 = .ok (.putfield 19, 3) := by decide +kernel
theorem dX2_init_22 : decode cX2_init 22 = .ok (.aload_n 0, 1) := by decide +kernel
theorem dX2_init_23 : decode cX2_init 23 = .ok (.sipush 300, 3) := by decide +kernel
theorem dX2_init_26 : decode cX2_init 26 = .ok (.newarray .int, 2) := by decide +kernel
theorem dX2_init_28 : decode cX2_init 28 = .ok (.putfield 23, 3) := by decide +kernel
theorem dX2_init_31 : decode cX2_init 31 = .ok (.aload_n 0, 1) := by decide +kernel
theorem dX2_init_32 : decode cX2_init 32 = .ok (.sipush 300, 3) := by decide +kernel
theorem dX2_init_35 : decode cX2_init 35 = .ok (.newarray .int, 2) := by decide +kernel
theorem dX2_init_37 : decode cX2_init 37 = .ok (.putfield 26, 3) := by decide +kernel
theorem dX2_init_40 : decode cX2_init 40 = .ok (.return_, 1) := by decide +kernel
theorem dX2_append_0 : decode cX2_append 0 = .ok (.aload_n 0, 1) := by decide +kernel
theorem dX2_append_1 : decode cX2_append 1 = .ok (.getfield 29, 3) := by decide +kernel
theorem dX2_append_4 : decode cX2_append 4 = .ok (.bipush 10, 2) := by decide +kernel
theorem dX2_append_6 : decode cX2_append 6 = .ok (.if_icmp .ge 23, 3) := by decide +kernel
theorem dX2_append_9 : decode cX2_append 9 = .ok (.aload_n 0, 1) := by decide +kernel
theorem dX2_append_10 : decode cX2_append 10 = .ok (.getfield 19, 3) := by decide +kernel
theorem dX2_append_13 : decode cX2_append 13 = .ok (.aload_n 0, 1) := by decide +kernel
theorem dX2_append_14 : decode cX2_append 14 = .ok (.getfield 29, 3) := by decide +kernel
theorem dX2_append_17 : decode cX2_append 17 = .ok (.iload_n 1, 1) := by decide +kernel
theorem dX2_append_18 : decode cX2_append 18 = .ok (.iastore, 1) := by decide +kernel
theorem dX2_append_19 : decode cX2_append 19 = .ok (.aload_n 0, 1) := by decide +kernel
theorem dX2_append_20 : decode cX2_append 20 = .ok (.dup, 1) := by decide +kernel
theorem dX2_append_21 : decode cX2_append 21 = .ok (.getfield 29, 3) := by decide +kernel
theorem dX2_append_24 : decode cX2_append 24 = .ok (.iconst 1, 1) := by decide +kernel
theorem dX2_append_25 : decode cX2_append 25 = .ok (.iadd, 1) := by decide +kernel
theorem dX2_append_26 : decode cX2_append 26 = .ok (.putfield 29, 3) := by decide +kernel
theorem dX2_append_29 : decode cX2_append 29 = .ok (.aload_n 0, 1) := by decide +kernel
theorem dX2_append_30 : decode cX2_append 30 = .ok (.getfield 29, 3) := by decide +kernel
theorem dX2_append_33 : decode cX2_append 33 = .ok (.ireturn, 1) := by decide +kernel
theorem dX2_clear_0 : decode cX2_clear 0 = .ok (.aload_n 0, 1) := by decide +kernel
theorem dX2_clear_1 : decode cX2_clear 1 = .ok (.getfield 29, 3) := by decide +kernel
theorem dX2_clear_4 : decode cX2_clear 4 = .ok (.istore_n 1, 1) := by decide +kernel
theorem dX2_clear_5 : decode cX2_clear 5 = .ok (.aload_n 0, 1) := by decide +kernel
theorem dX2_clear_6 : decode cX2_clear 6 = .ok (.iconst 0, 1) := by decide +kernel
theorem dX2_clear_7 : decode cX2_clear 7 = .ok (.putfield 29, 3) := by decide +kernel
theorem dX2_clear_10 : decode cX2_clear 10 = .ok (.iload_n 1, 1) := by decide +kernel
theorem dX2_clear_11 : decode cX2_clear 11 = .ok (.ireturn, 1) := by decide +kernel
theorem dX2_reachesTo_0 : decode cX2_reachesTo 0 = .ok (.aload_n 0, 1) := by decide +kernel
theorem dX2_reachesTo_1 : decode cX2_reachesTo 1 = .ok (.getfield 9, 3) := by decide +kernel
theorem dX2_reachesTo_4 : decode cX2_reachesTo 4 = .ok (.getfield 33, 3) := by decide +kernel
theorem dX2_reachesTo_7 : decode cX2_reachesTo 7 = .ok (.lstore_n 1, 1) := by decide +kernel
theorem dX2_reachesTo_8 : decode cX2_reachesTo 8 = .ok (.iconst 0, 1) := by decide +kernel
theorem dX2_reachesTo_9 : decode cX2_reachesTo 9 = .ok (.istore_n 3, 1) := by decide +kernel
theorem dX2_reachesTo_10 : decode cX2_reachesTo 10 = .ok (.iload_n 3, 1) := by decide +kernel
theorem dX2_reachesTo_11 : decode cX2_reachesTo 11 = .ok (.aload_n 0, 1) := by decide +kernel
theorem dX2_reachesTo_12 : decode cX2_reachesTo 12 = .ok (.getfield 29, 3) := by decide +kernel
theorem dX2_reachesTo_15 : decode cX2_reachesTo 15 = .ok (.if_icmp .ge 43, 3) := by decide +kernel
theorem dX2_reachesTo_18 : decode cX2_reachesTo 18 = .ok (.aload_n 0, 1) := by decide +kernel
theorem dX2_reachesTo_19 : decode cX2_reachesTo 19 = .ok (.getfield 9, 3) := by decide +kernel
theorem dX2_reachesTo_22 : decode cX2_reachesTo 22 = .ok (.lload_n 1, 1) := by decide +kernel
theorem dX2_reachesTo_23 : decode cX2_reachesTo 23 = .ok (.aload_n 0, 1) := by decide +kernel
theorem dX2_reachesTo_24 : decode cX2_reachesTo 24 = .ok (.getfield 19, 3) := by decide +kernel
theorem dX2_reachesTo_27 : decode cX2_reachesTo 27 = .ok (.iload_n 3, 1) := by decide +kernel
theorem dX2_reachesTo_28 : decode cX2_reachesTo 28 = .ok (.iaload, 1) := by decide +kernel
theorem dX2_reachesTo_29 : decode cX2_reachesTo 29 = .ok (.invokevirtual 39, 3) := by decide +kernel
theorem dX2_reachesTo_32 : decode cX2_reachesTo 32 = .ok (.ifCond .ne 5, 3) := by decide +kernel
theorem dX2_reachesTo_35 : decode cX2_reachesTo 35 = .ok (.iload_n 3, 1) := by decide +kernel
theorem dX2_reachesTo_36 : decode cX2_reachesTo 36 = .ok (.ireturn, 1) := by decide +kernel
theorem dX2_reachesTo_37 : decode cX2_reachesTo 37 = .ok (.aload_n 0, 1) := by decide +kernel
theorem dX2_reachesTo_38 : decode cX2_reachesTo 38 = .ok (.getfield 9, 3) := by decide +kernel
theorem dX2_reachesTo_41 : decode cX2_reachesTo 41 = .ok (.lload_n 1, 1) := by decide +kernel
theorem dX2_reachesTo_42 : decode cX2_reachesTo 42 = .ok (.aload_n 0, 1) := by decide +kernel
theorem dX2_reachesTo_43 : decode cX2_reachesTo 43 = .ok (.getfield 19, 3) := by decide +kernel
theorem dX2_reachesTo_46 : decode cX2_reachesTo 46 = .ok (.iload_n 3, 1) := by decide +kernel
theorem dX2_reachesTo_47 : decode cX2_reachesTo 47 = .ok (.iaload, 1) := by decide +kernel
theorem dX2_reachesTo_48 : decode cX2_reachesTo 48 = .ok (.invokevirtual 43, 3) := by decide +kernel
theorem dX2_reachesTo_51 : decode cX2_reachesTo 51 = .ok (.lstore_n 1, 1) := by decide +kernel
theorem dX2_reachesTo_52 : decode cX2_reachesTo 52 = .ok (.iinc 3 1, 3) := by decide +kernel
theorem dX2_reachesTo_55 : decode cX2_reachesTo 55 = .ok (.goto (-45), 3) := by decide +kernel
theorem dX2_reachesTo_58 : decode cX2_reachesTo 58 = .ok (.aload_n 0, 1) := by decide +kernel
theorem dX2_reachesTo_59 : decode cX2_reachesTo 59 = .ok (.getfield 29, 3) := by decide +kernel
theorem dX2_reachesTo_62 : decode cX2_reachesTo 62 = .ok (.ireturn, 1) := by decide +kernel
theorem dX2_leastCost_0 : decode cX2_leastCost 0 = .ok (.aload_n 0, 1) := by decide +kernel
theorem dX2_leastCost_1 : decode cX2_leastCost 1 = .ok (.aload_n 0, 1) := by decide +kernel
theorem dX2_leastCost_2 : decode cX2_leastCost 2 = .ok (.getfield 15, 3) := by decide +kernel
theorem dX2_leastCost_5 : decode cX2_leastCost 5 = .ok (.getfield 47, 3) := by decide +kernel
theorem dX2_leastCost_8 : decode cX2_leastCost 8 = .ok (.sipush 300, 3) := by decide +kernel
theorem dX2_leastCost_11 : decode cX2_leastCost 11 = .ok (.invokestatic 52, 3) := by decide +kernel
theorem dX2_leastCost_14 : decode cX2_leastCost 14 = .ok (.putfield 58, 3) := by decide +kernel
theorem dX2_leastCost_17 : decode cX2_leastCost 17 = .ok (.aload_n 0, 1) := by decide +kernel
theorem dX2_leastCost_18 : decode cX2_leastCost 18 = .ok (.getfield 23, 3) := by decide +kernel
theorem dX2_leastCost_21 : decode cX2_leastCost 21 = .ok (.sipush 1000, 3) := by decide +kernel
theorem dX2_leastCost_24 : decode cX2_leastCost 24 = .ok (.invokestatic 61, 3) := by decide +kernel
theorem dX2_leastCost_27 : decode cX2_leastCost 27 = .ok (.aload_n 0, 1) := by decide +kernel
theorem dX2_leastCost_28 : decode cX2_leastCost 28 = .ok (.getfield 23, 3) := by decide +kernel
theorem dX2_leastCost_31 : decode cX2_leastCost 31 = .ok (.iconst 0, 1) := by decide +kernel
theorem dX2_leastCost_32 : decode cX2_leastCost 32 = .ok (.iconst 0, 1) := by decide +kernel
theorem dX2_leastCost_33 : decode cX2_leastCost 33 = .ok (.iastore, 1) := by decide +kernel
theorem dX2_leastCost_34 : decode cX2_leastCost 34 = .ok (.iconst 0, 1) := by decide +kernel
theorem dX2_leastCost_35 : decode cX2_leastCost 35 = .ok (.istore_n 1, 1) := by decide +kernel
theorem dX2_leastCost_36 : decode cX2_leastCost 36 = .ok (.iload_n 1, 1) := by decide +kernel
theorem dX2_leastCost_37 : decode cX2_leastCost 37 = .ok (.aload_n 0, 1) := by decide +kernel
theorem dX2_leastCost_38 : decode cX2_leastCost 38 = .ok (.getfield 29, 3) := by decide +kernel
theorem dX2_leastCost_41 : decode cX2_leastCost 41 = .ok (.if_icmp .ge 23, 3) := by decide +kernel
theorem dX2_leastCost_44 : decode cX2_leastCost 44 = .ok (.aload_n 0, 1) := by decide +kernel
theorem dX2_leastCost_45 : decode cX2_leastCost 45 = .ok (.invokevirtual 67, 3) := by decide +kernel
theorem dX2_leastCost_48 : decode cX2_leastCost 48 = .ok (.aload_n 0, 1) := by decide +kernel
theorem dX2_leastCost_49 : decode cX2_leastCost 49 = .ok (.aload_n 0, 1) := by decide +kernel
theorem dX2_leastCost_50 : decode cX2_leastCost 50 = .ok (.getfield 19, 3) := by decide +kernel
theorem dX2_leastCost_53 : decode cX2_leastCost 53 = .ok (.iload_n 1, 1) := by decide +kernel
theorem dX2_leastCost_54 : decode cX2_leastCost 54 = .ok (.iaload, 1) := by decide +kernel
theorem dX2_leastCost_55 : decode cX2_leastCost 55 = .ok (.invokevirtual 70, 3) := by decide +kernel
theorem dX2_leastCost_58 : decode cX2_leastCost 58 = .ok (.iinc 1 1, 3) := by decide +kernel
theorem dX2_leastCost_61 : decode cX2_leastCost 61 = .ok (.goto (-25), 3) := by decide +kernel
theorem dX2_leastCost_64 : decode cX2_leastCost 64 = .ok (.sipush 1000, 3) := by decide +kernel
theorem dX2_leastCost_67 : decode cX2_leastCost 67 = .ok (.istore_n 1, 1) := by decide +kernel
theorem dX2_leastCost_68 : decode cX2_leastCost 68 = .ok (.iconst 0, 1) := by decide +kernel
theorem dX2_leastCost_69 : decode cX2_leastCost 69 = .ok (.istore_n 2, 1) := by decide +kernel
theorem dX2_leastCost_70 : decode cX2_leastCost 70 = .ok (.iload_n 2, 1) := by decide +kernel
theorem dX2_leastCost_71 : decode cX2_leastCost 71 = .ok (.aload_n 0, 1) := by decide +kernel
theorem dX2_leastCost_72 : decode cX2_leastCost 72 = .ok (.getfield 58, 3) := by decide +kernel
theorem dX2_leastCost_75 : decode cX2_leastCost 75 = .ok (.if_icmp .ge 20, 3) := by decide +kernel
theorem dX2_leastCost_78 : decode cX2_leastCost 78 = .ok (.iload_n 1, 1) := by decide +kernel
theorem dX2_leastCost_79 : decode cX2_leastCost 79 = .ok (.aload_n 0, 1) := by decide +kernel
theorem dX2_leastCost_80 : decode cX2_leastCost 80 = .ok (.getfield 23, 3) := by decide +kernel
theorem dX2_leastCost_83 : decode cX2_leastCost 83 = .ok (.iload_n 2, 1) := by decide +kernel
theorem dX2_leastCost_84 : decode cX2_leastCost 84 = .ok (.iaload, 1) := by decide +kernel
theorem dX2_leastCost_85 : decode cX2_leastCost 85 = .ok (.invokestatic 52, 3) := by decide +kernel
theorem dX2_leastCost_88 : decode cX2_leastCost 88 = .ok (.istore_n 1, 1) := by decide +kernel
theorem dX2_leastCost_89 : decode cX2_leastCost 89 = .ok (.iinc 2 1, 3) := by decide +kernel
theorem dX2_leastCost_92 : decode cX2_leastCost 92 = .ok (.goto (-22), 3) := by decide +kernel
theorem dX2_leastCost_95 : decode cX2_leastCost 95 = .ok (.iload_n 1, 1) := by decide +kernel
theorem dX2_leastCost_96 : decode cX2_leastCost 96 = .ok (.ireturn, 1) := by decide +kernel
theorem dX2_doBesides_0 : decode cX2_doBesides 0 = .ok (.iconst 0, 1) := by decide +kernel
theorem dX2_doBesides_1 : decode cX2_doBesides 1 = .ok (.istore_n 1, 1) := by decide +kernel
theorem dX2_doBesides_2 : decode cX2_doBesides 2 = .ok (.iload_n 1, 1) := by decide +kernel
theorem dX2_doBesides_3 : decode cX2_doBesides 3 = .ok (.aload_n 0, 1) := by decide +kernel
theorem dX2_doBesides_4 : decode cX2_doBesides 4 = .ok (.getfield 29, 3) := by decide +kernel
theorem dX2_doBesides_7 : decode cX2_doBesides 7 = .ok (.if_icmp .ge 43, 3) := by decide +kernel
theorem dX2_doBesides_10 : decode cX2_doBesides 10 = .ok (.iconst 0, 1) := by decide +kernel
theorem dX2_doBesides_11 : decode cX2_doBesides 11 = .ok (.istore_n 2, 1) := by decide +kernel
theorem dX2_doBesides_12 : decode cX2_doBesides 12 = .ok (.iload_n 2, 1) := by decide +kernel
theorem dX2_doBesides_13 : decode cX2_doBesides 13 = .ok (.aload_n 0, 1) := by decide +kernel
theorem dX2_doBesides_14 : decode cX2_doBesides 14 = .ok (.getfield 58, 3) := by decide +kernel
theorem dX2_doBesides_17 : decode cX2_doBesides 17 = .ok (.if_icmp .ge 27, 3) := by decide +kernel
theorem dX2_doBesides_20 : decode cX2_doBesides 20 = .ok (.aload_n 0, 1) := by decide +kernel
theorem dX2_doBesides_21 : decode cX2_doBesides 21 = .ok (.getfield 23, 3) := by decide +kernel
theorem dX2_doBesides_24 : decode cX2_doBesides 24 = .ok (.iload_n 2, 1) := by decide +kernel
theorem dX2_doBesides_25 : decode cX2_doBesides 25 = .ok (.iaload, 1) := by decide +kernel
theorem dX2_doBesides_26 : decode cX2_doBesides 26 = .ok (.iload_n 1, 1) := by decide +kernel
theorem dX2_doBesides_27 : decode cX2_doBesides 27 = .ok (.if_icmp .ne 11, 3) := by decide +kernel
theorem dX2_doBesides_30 : decode cX2_doBesides 30 = .ok (.aload_n 0, 1) := by decide +kernel
theorem dX2_doBesides_31 : decode cX2_doBesides 31 = .ok (.iload_n 2, 1) := by decide +kernel
theorem dX2_doBesides_32 : decode cX2_doBesides 32 = .ok (.iload_n 1, 1) := by decide +kernel
theorem dX2_doBesides_33 : decode cX2_doBesides 33 = .ok (.iconst 1, 1) := by decide +kernel
theorem dX2_doBesides_34 : decode cX2_doBesides 34 = .ok (.iadd, 1) := by decide +kernel
theorem dX2_doBesides_35 : decode cX2_doBesides 35 = .ok (.invokevirtual 74, 3) := by decide +kernel
theorem dX2_doBesides_38 : decode cX2_doBesides 38 = .ok (.iinc 2 1, 3) := by decide +kernel
theorem dX2_doBesides_41 : decode cX2_doBesides 41 = .ok (.goto (-29), 3) := by decide +kernel
theorem dX2_doBesides_44 : decode cX2_doBesides 44 = .ok (.iinc 1 1, 3) := by decide +kernel
theorem dX2_doBesides_47 : decode cX2_doBesides 47 = .ok (.goto (-45), 3) := by decide +kernel
theorem dX2_doBesides_50 : decode cX2_doBesides 50 = .ok (.return_, 1) := by decide +kernel
theorem dX2_offerBesides_0 : decode cX2_offerBesides 0 = .ok (.iconst 0, 1) := by decide +kernel
theorem dX2_offerBesides_1 : decode cX2_offerBesides 1 = .ok (.istore_n 3, 1) := by decide +kernel
theorem dX2_offerBesides_2 : decode cX2_offerBesides 2 = .ok (.iload_n 3, 1) := by decide +kernel
theorem dX2_offerBesides_3 : decode cX2_offerBesides 3 = .ok (.aload_n 0, 1) := by decide +kernel
theorem dX2_offerBesides_4 : decode cX2_offerBesides 4 = .ok (.getfield 9, 3) := by decide +kernel
theorem dX2_offerBesides_7 : decode cX2_offerBesides 7 = .ok (.getfield 78, 3) := by decide +kernel
theorem dX2_offerBesides_10 : decode cX2_offerBesides 10 = .ok (.if_icmp .ge 51, 3) := by decide +kernel
theorem dX2_offerBesides_13 : decode cX2_offerBesides 13 = .ok (.aload_n 0, 1) := by decide +kernel
theorem dX2_offerBesides_14 : decode cX2_offerBesides 14 = .ok (.getfield 15, 3) := by decide +kernel
theorem dX2_offerBesides_17 : decode cX2_offerBesides 17 = .ok (.iload_n 1, 1) := by decide +kernel
theorem dX2_offerBesides_18 : decode cX2_offerBesides 18 = .ok (.iload_n 3, 1) := by decide +kernel
theorem dX2_offerBesides_19 : decode cX2_offerBesides 19 = .ok (.invokevirtual 81, 3) := by decide +kernel
theorem dX2_offerBesides_22 : decode cX2_offerBesides 22 = .ok (.istore 4, 2) := by decide +kernel
theorem dX2_offerBesides_24 : decode cX2_offerBesides 24 = .ok (.iload 4, 2) := by decide +kernel
theorem dX2_offerBesides_26 : decode cX2_offerBesides 26 = .ok (.ifCond .lt 29, 3) := by decide +kernel
theorem dX2_offerBesides_29 : decode cX2_offerBesides 29 = .ok (.iload 4, 2) := by decide +kernel
theorem dX2_offerBesides_31 : decode cX2_offerBesides 31 = .ok (.sipush 300, 3) := by decide +kernel
theorem dX2_offerBesides_34 : decode cX2_offerBesides 34 = .ok (.if_icmp .ge 21, 3) := by decide +kernel
theorem dX2_offerBesides_37 : decode cX2_offerBesides 37 = .ok (.aload_n 0, 1) := by decide +kernel
theorem dX2_offerBesides_38 : decode cX2_offerBesides 38 = .ok (.getfield 23, 3) := by decide +kernel
theorem dX2_offerBesides_41 : decode cX2_offerBesides 41 = .ok (.iload 4, 2) := by decide +kernel
theorem dX2_offerBesides_43 : decode cX2_offerBesides 43 = .ok (.aload_n 0, 1) := by decide +kernel
theorem dX2_offerBesides_44 : decode cX2_offerBesides 44 = .ok (.getfield 23, 3) := by decide +kernel
theorem dX2_offerBesides_47 : decode cX2_offerBesides 47 = .ok (.iload 4, 2) := by decide +kernel
theorem dX2_offerBesides_49 : decode cX2_offerBesides 49 = .ok (.iaload, 1) := by decide +kernel
theorem dX2_offerBesides_50 : decode cX2_offerBesides 50 = .ok (.iload_n 2, 1) := by decide +kernel
theorem dX2_offerBesides_51 : decode cX2_offerBesides 51 = .ok (.invokestatic 52, 3) := by decide +kernel
theorem dX2_offerBesides_54 : decode cX2_offerBesides 54 = .ok (.iastore, 1) := by decide +kernel
theorem dX2_offerBesides_55 : decode cX2_offerBesides 55 = .ok (.iinc 3 1, 3) := by decide +kernel
theorem dX2_offerBesides_58 : decode cX2_offerBesides 58 = .ok (.goto (-56), 3) := by decide +kernel
theorem dX2_offerBesides_61 : decode cX2_offerBesides 61 = .ok (.return_, 1) := by decide +kernel
theorem dX2_goPast_0 : decode cX2_goPast 0 = .ok (.iconst 0, 1) := by decide +kernel
theorem dX2_goPast_1 : decode cX2_goPast 1 = .ok (.istore_n 2, 1) := by decide +kernel
theorem dX2_goPast_2 : decode cX2_goPast 2 = .ok (.iload_n 2, 1) := by decide +kernel
theorem dX2_goPast_3 : decode cX2_goPast 3 = .ok (.aload_n 0, 1) := by decide +kernel
theorem dX2_goPast_4 : decode cX2_goPast 4 = .ok (.getfield 58, 3) := by decide +kernel
theorem dX2_goPast_7 : decode cX2_goPast 7 = .ok (.if_icmp .ge 23, 3) := by decide +kernel
theorem dX2_goPast_10 : decode cX2_goPast 10 = .ok (.aload_n 0, 1) := by decide +kernel
theorem dX2_goPast_11 : decode cX2_goPast 11 = .ok (.getfield 26, 3) := by decide +kernel
theorem dX2_goPast_14 : decode cX2_goPast 14 = .ok (.iload_n 2, 1) := by decide +kernel
theorem dX2_goPast_15 : decode cX2_goPast 15 = .ok (.aload_n 0, 1) := by decide +kernel
theorem dX2_goPast_16 : decode cX2_goPast 16 = .ok (.getfield 23, 3) := by decide +kernel
theorem dX2_goPast_19 : decode cX2_goPast 19 = .ok (.iload_n 2, 1) := by decide +kernel
theorem dX2_goPast_20 : decode cX2_goPast 20 = .ok (.iaload, 1) := by decide +kernel
theorem dX2_goPast_21 : decode cX2_goPast 21 = .ok (.iconst 1, 1) := by decide +kernel
theorem dX2_goPast_22 : decode cX2_goPast 22 = .ok (.iadd, 1) := by decide +kernel
theorem dX2_goPast_23 : decode cX2_goPast 23 = .ok (.iastore, 1) := by decide +kernel
theorem dX2_goPast_24 : decode cX2_goPast 24 = .ok (.iinc 2 1, 3) := by decide +kernel
theorem dX2_goPast_27 : decode cX2_goPast 27 = .ok (.goto (-25), 3) := by decide +kernel
theorem dX2_goPast_30 : decode cX2_goPast 30 = .ok (.iconst 0, 1) := by decide +kernel
theorem dX2_goPast_31 : decode cX2_goPast 31 = .ok (.istore_n 2, 1) := by decide +kernel
theorem dX2_goPast_32 : decode cX2_goPast 32 = .ok (.iload_n 2, 1) := by decide +kernel
theorem dX2_goPast_33 : decode cX2_goPast 33 = .ok (.aload_n 0, 1) := by decide +kernel
theorem dX2_goPast_34 : decode cX2_goPast 34 = .ok (.getfield 58, 3) := by decide +kernel
theorem dX2_goPast_37 : decode cX2_goPast 37 = .ok (.if_icmp .ge 51, 3) := by decide +kernel
theorem dX2_goPast_40 : decode cX2_goPast 40 = .ok (.aload_n 0, 1) := by decide +kernel
theorem dX2_goPast_41 : decode cX2_goPast 41 = .ok (.getfield 15, 3) := by decide +kernel
theorem dX2_goPast_44 : decode cX2_goPast 44 = .ok (.iload_n 2, 1) := by decide +kernel
theorem dX2_goPast_45 : decode cX2_goPast 45 = .ok (.iload_n 1, 1) := by decide +kernel
theorem dX2_goPast_46 : decode cX2_goPast 46 = .ok (.invokevirtual 81, 3) := by decide +kernel
theorem dX2_goPast_49 : decode cX2_goPast 49 = .ok (.istore_n 3, 1) := by decide +kernel
theorem dX2_goPast_50 : decode cX2_goPast 50 = .ok (.iload_n 3, 1) := by decide +kernel
theorem dX2_goPast_51 : decode cX2_goPast 51 = .ok (.ifCond .lt 31, 3) := by decide +kernel
theorem dX2_goPast_54 : decode cX2_goPast 54 = .ok (.iload_n 3, 1) := by decide +kernel
theorem dX2_goPast_55 : decode cX2_goPast 55 = .ok (.sipush 300, 3) := by decide +kernel
theorem dX2_goPast_58 : decode cX2_goPast 58 = .ok (.if_icmp .ge 24, 3) := by decide +kernel
theorem dX2_goPast_61 : decode cX2_goPast 61 = .ok (.aload_n 0, 1) := by decide +kernel
theorem dX2_goPast_62 : decode cX2_goPast 62 = .ok (.getfield 26, 3) := by decide +kernel
theorem dX2_goPast_65 : decode cX2_goPast 65 = .ok (.iload_n 3, 1) := by decide +kernel
theorem dX2_goPast_66 : decode cX2_goPast 66 = .ok (.aload_n 0, 1) := by decide +kernel
theorem dX2_goPast_67 : decode cX2_goPast 67 = .ok (.getfield 26, 3) := by decide +kernel
theorem dX2_goPast_70 : decode cX2_goPast 70 = .ok (.iload_n 3, 1) := by decide +kernel
theorem dX2_goPast_71 : decode cX2_goPast 71 = .ok (.iaload, 1) := by decide +kernel
theorem dX2_goPast_72 : decode cX2_goPast 72 = .ok (.aload_n 0, 1) := by decide +kernel
theorem dX2_goPast_73 : decode cX2_goPast 73 = .ok (.getfield 23, 3) := by decide +kernel
theorem dX2_goPast_76 : decode cX2_goPast 76 = .ok (.iload_n 2, 1) := by decide +kernel
theorem dX2_goPast_77 : decode cX2_goPast 77 = .ok (.iaload, 1) := by decide +kernel
theorem dX2_goPast_78 : decode cX2_goPast 78 = .ok (.invokestatic 52, 3) := by decide +kernel
theorem dX2_goPast_81 : decode cX2_goPast 81 = .ok (.iastore, 1) := by decide +kernel
theorem dX2_goPast_82 : decode cX2_goPast 82 = .ok (.iinc 2 1, 3) := by decide +kernel
theorem dX2_goPast_85 : decode cX2_goPast 85 = .ok (.goto (-53), 3) := by decide +kernel
theorem dX2_goPast_88 : decode cX2_goPast 88 = .ok (.aload_n 0, 1) := by decide +kernel
theorem dX2_goPast_89 : decode cX2_goPast 89 = .ok (.getfield 26, 3) := by decide +kernel
theorem dX2_goPast_92 : decode cX2_goPast 92 = .ok (.iconst 0, 1) := by decide +kernel
theorem dX2_goPast_93 : decode cX2_goPast 93 = .ok (.aload_n 0, 1) := by decide +kernel
theorem dX2_goPast_94 : decode cX2_goPast 94 = .ok (.getfield 23, 3) := by decide +kernel
theorem dX2_goPast_97 : decode cX2_goPast 97 = .ok (.iconst 0, 1) := by decide +kernel
theorem dX2_goPast_98 : decode cX2_goPast 98 = .ok (.sipush 300, 3) := by decide +kernel
theorem dX2_goPast_101 : decode cX2_goPast 101 = .ok (.invokestatic 84, 3) := by decide +kernel
theorem dX2_goPast_104 : decode cX2_goPast 104 = .ok (.return_, 1) := by decide +kernel
theorem dX3_init_0 : decode cX3_init 0 = .ok (.aload_n 0, 1) := by decide +kernel
theorem dX3_init_1 : decode cX3_init 1 = .ok (.invokespecial 3, 3) := by decide +kernel
theorem dX3_init_4 : decode cX3_init 4 = .ok (.aload_n 0, 1) := by decide +kernel
theorem dX3_init_5 : decode cX3_init 5 = .ok (.sipush 240, 3) := by decide +kernel
theorem dX3_init_8 : decode cX3_init 8 = .ok (.newarray .int, 2) := by decide +kernel
theorem dX3_init_10 : decode cX3_init 10 = .ok (.putfield 9, 3) := by decide +kernel
theorem dX3_init_13 : decode cX3_init 13 = .ok (.aload_n 0, 1) := by decide +kernel
theorem dX3_init_14 : decode cX3_init 14 = .ok (.bipush 8, 2) := by decide +kernel
theorem dX3_init_16 : decode cX3_init 16 = .ok (.newarray .long, 2) := by decide +kernel
theorem dX3_init_18 : decode cX3_init 18 = .ok (.putfield 15, 3) := by decide +kernel
theorem dX3_init_21 : decode cX3_init 21 = .ok (.aload_n 0, 1) := by decide +kernel
theorem dX3_init_22 : decode cX3_init 22 = .ok (.bipush 8, 2) := by decide +kernel
theorem dX3_init_24 : decode cX3_init 24 = .ok (.newarray .long, 2) := by decide +kernel
theorem dX3_init_26 : decode cX3_init 26 = .ok (.putfield 19, 3) := by decide +kernel
theorem dX3_init_29 : decode cX3_init 29 = .ok (.aload_n 0, 1) := by decide +kernel
theorem dX3_init_30 : decode cX3_init 30 = .ok (.bipush 8, 2) := by decide +kernel
theorem dX3_init_32 : decode cX3_init 32 = .ok (.newarray .long, 2) := by decide +kernel
theorem dX3_init_34 : decode cX3_init 34 = .ok (.putfield 22, 3) := by decide +kernel
theorem dX3_init_37 : decode cX3_init 37 = .ok (.aload_n 0, 1) := by decide +kernel
theorem dX3_init_38 : decode cX3_init 38 = .ok (.bipush 8, 2) := by decide +kernel
theorem dX3_init_40 : decode cX3_init 40 = .ok (.newarray .long, 2) := by decide +kernel
theorem dX3_init_42 : decode cX3_init 42 = .ok (.putfield 25, 3) := by decide +kernel
theorem dX3_init_45 : decode cX3_init 45 = .ok (.aload_n 0, 1) := by decide +kernel
theorem dX3_init_46 : decode cX3_init 46 = .ok (.bipush 8, 2) := by decide +kernel
theorem dX3_init_48 : decode cX3_init 48 = .ok (.newarray .long, 2) := by decide +kernel
theorem dX3_init_50 : decode cX3_init 50 = .ok (.putfield 28, 3) := by decide +kernel
theorem dX3_init_53 : decode cX3_init 53 = .ok (.return_, 1) := by decide +kernel
theorem dX3_addPlace_0 : decode cX3_addPlace 0 = .ok (.aload_n 0, 1) := by decide +kernel
theorem dX3_addPlace_1 : decode cX3_addPlace 1 = .ok (.getfield 31, 3) := by decide +kernel
theorem dX3_addPlace_4 : decode cX3_addPlace 4 = .ok (.istore_n 2, 1) := by decide +kernel
theorem dX3_addPlace_5 : decode cX3_addPlace 5 = .ok (.aload_n 0, 1) := by decide +kernel
theorem dX3_addPlace_6 : decode cX3_addPlace 6 = .ok (.dup, 1) := by decide +kernel
theorem dX3_addPlace_7 : decode cX3_addPlace 7 = .ok (.getfield 35, 3) := by decide +kernel
theorem dX3_addPlace_10 : decode cX3_addPlace 10 = .ok (.iload_n 1, 1) := by decide +kernel
theorem dX3_addPlace_11 : decode cX3_addPlace 11 = .ok (.iload_n 2, 1) := by decide +kernel
theorem dX3_addPlace_12 : decode cX3_addPlace 12 = .ok (.invokestatic 39, 3) := by decide +kernel
theorem dX3_addPlace_15 : decode cX3_addPlace 15 = .ok (.lor, 1) := by decide +kernel
theorem dX3_addPlace_16 : decode cX3_addPlace 16 = .ok (.putfield 35, 3) := by decide +kernel
theorem dX3_addPlace_19 : decode cX3_addPlace 19 = .ok (.aload_n 0, 1) := by decide +kernel
theorem dX3_addPlace_20 : decode cX3_addPlace 20 = .ok (.dup, 1) := by decide +kernel
theorem dX3_addPlace_21 : decode cX3_addPlace 21 = .ok (.getfield 31, 3) := by decide +kernel
theorem dX3_addPlace_24 : decode cX3_addPlace 24 = .ok (.iconst 1, 1) := by decide +kernel
theorem dX3_addPlace_25 : decode cX3_addPlace 25 = .ok (.iadd, 1) := by decide +kernel
theorem dX3_addPlace_26 : decode cX3_addPlace 26 = .ok (.putfield 31, 3) := by decide +kernel
theorem dX3_addPlace_29 : decode cX3_addPlace 29 = .ok (.aload_n 0, 1) := by decide +kernel
theorem dX3_addPlace_30 : decode cX3_addPlace 30 = .ok (.dup, 1) := by decide +kernel
theorem dX3_addPlace_31 : decode cX3_addPlace 31 = .ok (.getfield 43, 3) := by decide +kernel
theorem dX3_addPlace_34 : decode cX3_addPlace 34 = .ok (.iconst 1, 1) := by decide +kernel
theorem dX3_addPlace_35 : decode cX3_addPlace 35 = .ok (.iadd, 1) := by decide +kernel
theorem dX3_addPlace_36 : decode cX3_addPlace 36 = .ok (.putfield 43, 3) := by decide +kernel
theorem dX3_addPlace_39 : decode cX3_addPlace 39 = .ok (.aload_n 0, 1) := by decide +kernel
theorem dX3_addPlace_40 : decode cX3_addPlace 40 = .ok (.dup, 1) := by decide +kernel
theorem dX3_addPlace_41 : decode cX3_addPlace 41 = .ok (.getfield 46, 3) := by decide +kernel
theorem dX3_addPlace_44 : decode cX3_addPlace 44 = .ok (.iconst 1, 1) := by decide +kernel
theorem dX3_addPlace_45 : decode cX3_addPlace 45 = .ok (.iadd, 1) := by decide +kernel
theorem dX3_addPlace_46 : decode cX3_addPlace 46 = .ok (.putfield 46, 3) := by decide +kernel
theorem dX3_addPlace_49 : decode cX3_addPlace 49 = .ok (.iload_n 2, 1) := by decide +kernel
theorem dX3_addPlace_50 : decode cX3_addPlace 50 = .ok (.ireturn, 1) := by decide +kernel
theorem dX3_addFiring_0 : decode cX3_addFiring 0 = .ok (.aload_n 0, 1) := by decide +kernel
theorem dX3_addFiring_1 : decode cX3_addFiring 1 = .ok (.getfield 49, 3) := by decide +kernel
theorem dX3_addFiring_4 : decode cX3_addFiring 4 = .ok (.istore_n 1, 1) := by decide +kernel
theorem dX3_addFiring_5 : decode cX3_addFiring 5 = .ok (.aload_n 0, 1) := by decide +kernel
theorem dX3_addFiring_6 : decode cX3_addFiring 6 = .ok (.iload_n 1, 1) := by decide +kernel
theorem dX3_addFiring_7 : decode cX3_addFiring 7 = .ok (.invokevirtual 52, 3) := by decide +kernel
theorem dX3_addFiring_10 : decode cX3_addFiring 10 = .ok (.aload_n 0, 1) := by decide +kernel
theorem dX3_addFiring_11 : decode cX3_addFiring 11 = .ok (.dup, 1) := by decide +kernel
theorem dX3_addFiring_12 : decode cX3_addFiring 12 = .ok (.getfield 49, 3) := by decide +kernel
theorem dX3_addFiring_15 : decode cX3_addFiring 15 = .ok (.iconst 1, 1) := by decide +kernel
theorem dX3_addFiring_16 : decode cX3_addFiring 16 = .ok (.iadd, 1) := by decide +kernel
theorem dX3_addFiring_17 : decode cX3_addFiring 17 = .ok (.putfield 49, 3) := by decide +kernel
theorem dX3_addFiring_20 : decode cX3_addFiring 20 = .ok (.aload_n 0, 1) := by decide +kernel
theorem dX3_addFiring_21 : decode cX3_addFiring 21 = .ok (.dup, 1) := by decide +kernel
theorem dX3_addFiring_22 : decode cX3_addFiring 22 = .ok (.getfield 43, 3) := by decide +kernel
theorem dX3_addFiring_25 : decode cX3_addFiring 25 = .ok (.iconst 1, 1) := by decide +kernel
theorem dX3_addFiring_26 : decode cX3_addFiring 26 = .ok (.iadd, 1) := by decide +kernel
theorem dX3_addFiring_27 : decode cX3_addFiring 27 = .ok (.putfield 43, 3) := by decide +kernel
theorem dX3_addFiring_30 : decode cX3_addFiring 30 = .ok (.aload_n 0, 1) := by decide +kernel
theorem dX3_addFiring_31 : decode cX3_addFiring 31 = .ok (.dup, 1) := by decide +kernel
theorem dX3_addFiring_32 : decode cX3_addFiring 32 = .ok (.getfield 46, 3) := by decide +kernel
theorem dX3_addFiring_35 : decode cX3_addFiring 35 = .ok (.iconst 1, 1) := by decide +kernel
theorem dX3_addFiring_36 : decode cX3_addFiring 36 = .ok (.iadd, 1) := by decide +kernel
theorem dX3_addFiring_37 : decode cX3_addFiring 37 = .ok (.putfield 46, 3) := by decide +kernel
theorem dX3_addFiring_40 : decode cX3_addFiring 40 = .ok (.iload_n 1, 1) := by decide +kernel
theorem dX3_addFiring_41 : decode cX3_addFiring 41 = .ok (.ireturn, 1) := by decide +kernel
theorem dX3_setWeight_0 : decode cX3_setWeight 0 = .ok (.aload_n 0, 1) := by decide +kernel
theorem dX3_setWeight_1 : decode cX3_setWeight 1 = .ok (.iload_n 1, 1) := by decide +kernel
theorem dX3_setWeight_2 : decode cX3_setWeight 2 = .ok (.iload_n 2, 1) := by decide +kernel
theorem dX3_setWeight_3 : decode cX3_setWeight 3 = .ok (.iload_n 3, 1) := by decide +kernel
theorem dX3_setWeight_4 : decode cX3_setWeight 4 = .ok (.invokevirtual 56, 3) := by decide +kernel
theorem dX3_setWeight_7 : decode cX3_setWeight 7 = .ok (.istore 5, 2) := by decide +kernel
theorem dX3_setWeight_9 : decode cX3_setWeight 9 = .ok (.iload_n 1, 1) := by decide +kernel
theorem dX3_setWeight_10 : decode cX3_setWeight 10 = .ok (.bipush 8, 2) := by decide +kernel
theorem dX3_setWeight_12 : decode cX3_setWeight 12 = .ok (.imul, 1) := by decide +kernel
theorem dX3_setWeight_13 : decode cX3_setWeight 13 = .ok (.iload_n 2, 1) := by decide +kernel
theorem dX3_setWeight_14 : decode cX3_setWeight 14 = .ok (.iadd, 1) := by decide +kernel
theorem dX3_setWeight_15 : decode cX3_setWeight 15 = .ok (.bipush 6, 2) := by decide +kernel
theorem dX3_setWeight_17 : decode cX3_setWeight 17 = .ok (.imul, 1) := by decide +kernel
theorem dX3_setWeight_18 : decode cX3_setWeight 18 = .ok (.iload_n 3, 1) := by decide +kernel
theorem dX3_setWeight_19 : decode cX3_setWeight 19 = .ok (.iadd, 1) := by decide +kernel
theorem dX3_setWeight_20 : decode cX3_setWeight 20 = .ok (.istore 6, 2) := by decide +kernel
theorem dX3_setWeight_22 : decode cX3_setWeight 22 = .ok (.iload 6, 2) := by decide +kernel
theorem dX3_setWeight_24 : decode cX3_setWeight 24 = .ok (.ifCond .lt 22, 3) := by decide +kernel
theorem dX3_setWeight_27 : decode cX3_setWeight 27 = .ok (.iload 6, 2) := by decide +kernel
theorem dX3_setWeight_29 : decode cX3_setWeight 29 = .ok (.aload_n 0, 1) := by decide +kernel
theorem dX3_setWeight_30 : decode cX3_setWeight 30 = .ok (.getfield 9, 3) := by decide +kernel
theorem dX3_setWeight_33 : decode cX3_setWeight 33 = .ok (.arraylength, 1) := by decide +kernel
theorem dX3_setWeight_34 : decode cX3_setWeight 34 = .ok (.if_icmp .ge 12, 3) := by decide +kernel
theorem dX3_setWeight_37 : decode cX3_setWeight 37 = .ok (.aload_n 0, 1) := by decide +kernel
theorem dX3_setWeight_38 : decode cX3_setWeight 38 = .ok (.getfield 9, 3) := by decide +kernel
theorem dX3_setWeight_41 : decode cX3_setWeight 41 = .ok (.iload 6, 2) := by decide +kernel
theorem dX3_setWeight_43 : decode cX3_setWeight 43 = .ok (.iload 4, 2) := by decide +kernel
theorem dX3_setWeight_45 : decode cX3_setWeight 45 = .ok (.iastore, 1) := by decide +kernel
theorem dX3_setWeight_46 : decode cX3_setWeight 46 = .ok (.aload_n 0, 1) := by decide +kernel
theorem dX3_setWeight_47 : decode cX3_setWeight 47 = .ok (.iload_n 2, 1) := by decide +kernel
theorem dX3_setWeight_48 : decode cX3_setWeight 48 = .ok (.invokevirtual 52, 3) := by decide +kernel
theorem dX3_setWeight_51 : decode cX3_setWeight 51 = .ok (.aload_n 0, 1) := by decide +kernel
theorem dX3_setWeight_52 : decode cX3_setWeight 52 = .ok (.dup, 1) := by decide +kernel
theorem dX3_setWeight_53 : decode cX3_setWeight 53 = .ok (.getfield 43, 3) := by decide +kernel
theorem dX3_setWeight_56 : decode cX3_setWeight 56 = .ok (.iconst 1, 1) := by decide +kernel
theorem dX3_setWeight_57 : decode cX3_setWeight 57 = .ok (.iadd, 1) := by decide +kernel
theorem dX3_setWeight_58 : decode cX3_setWeight 58 = .ok (.putfield 43, 3) := by decide +kernel
theorem dX3_setWeight_61 : decode cX3_setWeight 61 = .ok (.aload_n 0, 1) := by decide +kernel
theorem dX3_setWeight_62 : decode cX3_setWeight 62 = .ok (.dup, 1) := by decide +kernel
theorem dX3_setWeight_63 : decode cX3_setWeight 63 = .ok (.getfield 46, 3) := by decide +kernel
theorem dX3_setWeight_66 : decode cX3_setWeight 66 = .ok (.iconst 1, 1) := by decide +kernel
theorem dX3_setWeight_67 : decode cX3_setWeight 67 = .ok (.iadd, 1) := by decide +kernel
theorem dX3_setWeight_68 : decode cX3_setWeight 68 = .ok (.putfield 46, 3) := by decide +kernel
theorem dX3_setWeight_71 : decode cX3_setWeight 71 = .ok (.iload 5, 2) := by decide +kernel
theorem dX3_setWeight_73 : decode cX3_setWeight 73 = .ok (.ireturn, 1) := by decide +kernel
theorem dX3_weight_0 : decode cX3_weight 0 = .ok (.iload_n 1, 1) := by decide +kernel
theorem dX3_weight_1 : decode cX3_weight 1 = .ok (.bipush 8, 2) := by decide +kernel
theorem dX3_weight_3 : decode cX3_weight 3 = .ok (.imul, 1) := by decide +kernel
theorem dX3_weight_4 : decode cX3_weight 4 = .ok (.iload_n 2, 1) := by decide +kernel
theorem dX3_weight_5 : decode cX3_weight 5 = .ok (.iadd, 1) := by decide +kernel
theorem dX3_weight_6 : decode cX3_weight 6 = .ok (.bipush 6, 2) := by decide +kernel
theorem dX3_weight_8 : decode cX3_weight 8 = .ok (.imul, 1) := by decide +kernel
theorem dX3_weight_9 : decode cX3_weight 9 = .ok (.iload_n 3, 1) := by decide +kernel
theorem dX3_weight_10 : decode cX3_weight 10 = .ok (.iadd, 1) := by decide +kernel
theorem dX3_weight_11 : decode cX3_weight 11 = .ok (.istore 4, 2) := by decide +kernel
theorem dX3_weight_13 : decode cX3_weight 13 = .ok (.iload 4, 2) := by decide +kernel
theorem dX3_weight_15 : decode cX3_weight 15 = .ok (.ifCond .lt 23, 3) := by decide +kernel
theorem dX3_weight_18 : decode cX3_weight 18 = .ok (.iload 4, 2) := by decide +kernel
theorem dX3_weight_20 : decode cX3_weight 20 = .ok (.aload_n 0, 1) := by decide +kernel
theorem dX3_weight_21 : decode cX3_weight 21 = .ok (.getfield 9, 3) := by decide +kernel
theorem dX3_weight_24 : decode cX3_weight 24 = .ok (.arraylength, 1) := by decide +kernel
theorem dX3_weight_25 : decode cX3_weight 25 = .ok (.if_icmp .ge 13, 3) := by decide +kernel
theorem dX3_weight_28 : decode cX3_weight 28 = .ok (.aload_n 0, 1) := by decide +kernel
theorem dX3_weight_29 : decode cX3_weight 29 = .ok (.getfield 9, 3) := by decide +kernel
theorem dX3_weight_32 : decode cX3_weight 32 = .ok (.iload 4, 2) := by decide +kernel
theorem dX3_weight_34 : decode cX3_weight 34 = .ok (.iaload, 1) := by decide +kernel
theorem dX3_weight_35 : decode cX3_weight 35 = .ok (.goto 4, 3) := by decide +kernel
theorem dX3_weight_38 : decode cX3_weight 38 = .ok (.iconst 0, 1) := by decide +kernel
theorem dX3_weight_39 : decode cX3_weight 39 = .ok (.ireturn, 1) := by decide +kernel
theorem dX3_pack_0 : decode cX3_pack 0 = .ok (.iload_n 1, 1) := by decide +kernel
theorem dX3_pack_1 : decode cX3_pack 1 = .ok (.ifCond .lt 9, 3) := by decide +kernel
theorem dX3_pack_4 : decode cX3_pack 4 = .ok (.iload_n 1, 1) := by decide +kernel
theorem dX3_pack_5 : decode cX3_pack 5 = .ok (.bipush 8, 2) := by decide +kernel
theorem dX3_pack_7 : decode cX3_pack 7 = .ok (.if_icmp .lt 4, 3) := by decide +kernel
theorem dX3_pack_10 : decode cX3_pack 10 = .ok (.return_, 1) := by decide +kernel
theorem dX3_pack_11 : decode cX3_pack 11 = .ok (.aload_n 0, 1) := by decide +kernel
theorem dX3_pack_12 : decode cX3_pack 12 = .ok (.getfield 15, 3) := by decide +kernel
theorem dX3_pack_15 : decode cX3_pack 15 = .ok (.iload_n 1, 1) := by decide +kernel
theorem dX3_pack_16 : decode cX3_pack 16 = .ok (.lconst 0, 1) := by decide +kernel
theorem dX3_pack_17 : decode cX3_pack 17 = .ok (.lastore, 1) := by decide +kernel
theorem dX3_pack_18 : decode cX3_pack 18 = .ok (.aload_n 0, 1) := by decide +kernel
theorem dX3_pack_19 : decode cX3_pack 19 = .ok (.getfield 19, 3) := by decide +kernel
theorem dX3_pack_22 : decode cX3_pack 22 = .ok (.iload_n 1, 1) := by decide +kernel
theorem dX3_pack_23 : decode cX3_pack 23 = .ok (.lconst 0, 1) := by decide +kernel
theorem dX3_pack_24 : decode cX3_pack 24 = .ok (.lastore, 1) := by decide +kernel
theorem dX3_pack_25 : decode cX3_pack 25 = .ok (.aload_n 0, 1) := by decide +kernel
theorem dX3_pack_26 : decode cX3_pack 26 = .ok (.getfield 22, 3) := by decide +kernel
theorem dX3_pack_29 : decode cX3_pack 29 = .ok (.iload_n 1, 1) := by decide +kernel
theorem dX3_pack_30 : decode cX3_pack 30 = .ok (.lconst 0, 1) := by decide +kernel
theorem dX3_pack_31 : decode cX3_pack 31 = .ok (.lastore, 1) := by decide +kernel
theorem dX3_pack_32 : decode cX3_pack 32 = .ok (.aload_n 0, 1) := by decide +kernel
theorem dX3_pack_33 : decode cX3_pack 33 = .ok (.getfield 25, 3) := by decide +kernel
theorem dX3_pack_36 : decode cX3_pack 36 = .ok (.iload_n 1, 1) := by decide +kernel
theorem dX3_pack_37 : decode cX3_pack 37 = .ok (.lconst 0, 1) := by decide +kernel
theorem dX3_pack_38 : decode cX3_pack 38 = .ok (.lastore, 1) := by decide +kernel
theorem dX3_pack_39 : decode cX3_pack 39 = .ok (.aload_n 0, 1) := by decide +kernel
theorem dX3_pack_40 : decode cX3_pack 40 = .ok (.getfield 28, 3) := by decide +kernel
theorem dX3_pack_43 : decode cX3_pack 43 = .ok (.iload_n 1, 1) := by decide +kernel
theorem dX3_pack_44 : decode cX3_pack 44 = .ok (.lconst 0, 1) := by decide +kernel
theorem dX3_pack_45 : decode cX3_pack 45 = .ok (.lastore, 1) := by decide +kernel
theorem dX3_pack_46 : decode cX3_pack 46 = .ok (.iconst 0, 1) := by decide +kernel
theorem dX3_pack_47 : decode cX3_pack 47 = .ok (.istore_n 2, 1) := by decide +kernel
theorem dX3_pack_48 : decode cX3_pack 48 = .ok (.iload_n 2, 1) := by decide +kernel
theorem dX3_pack_49 : decode cX3_pack 49 = .ok (.bipush 6, 2) := by decide +kernel
theorem dX3_pack_51 : decode cX3_pack 51 = .ok (.if_icmp .ge 141, 3) := by decide +kernel
theorem dX3_pack_54 : decode cX3_pack 54 = .ok (.aload_n 0, 1) := by decide +kernel
theorem dX3_pack_55 : decode cX3_pack 55 = .ok (.iconst 0, 1) := by decide +kernel
theorem dX3_pack_56 : decode cX3_pack 56 = .ok (.iload_n 1, 1) := by decide +kernel
theorem dX3_pack_57 : decode cX3_pack 57 = .ok (.iload_n 2, 1) := by decide +kernel
theorem dX3_pack_58 : decode cX3_pack 58 = .ok (.invokevirtual 56, 3) := by decide +kernel
theorem dX3_pack_61 : decode cX3_pack 61 = .ok (.istore_n 3, 1) := by decide +kernel
theorem dX3_pack_62 : decode cX3_pack 62 = .ok (.aload_n 0, 1) := by decide +kernel
theorem dX3_pack_63 : decode cX3_pack 63 = .ok (.iconst 3, 1) := by decide +kernel
theorem dX3_pack_64 : decode cX3_pack 64 = .ok (.iload_n 1, 1) := by decide +kernel
theorem dX3_pack_65 : decode cX3_pack 65 = .ok (.iload_n 2, 1) := by decide +kernel
theorem dX3_pack_66 : decode cX3_pack 66 = .ok (.invokevirtual 56, 3) := by decide +kernel
theorem dX3_pack_69 : decode cX3_pack 69 = .ok (.istore 4, 2) := by decide +kernel
theorem dX3_pack_71 : decode cX3_pack 71 = .ok (.aload_n 0, 1) := by decide +kernel
theorem dX3_pack_72 : decode cX3_pack 72 = .ok (.getfield 15, 3) := by decide +kernel
theorem dX3_pack_75 : decode cX3_pack 75 = .ok (.iload_n 1, 1) := by decide +kernel
theorem dX3_pack_76 : decode cX3_pack 76 = .ok (.dup2, 1) := by decide +kernel
theorem dX3_pack_77 : decode cX3_pack 77 = .ok (.laload, 1) := by decide +kernel
theorem dX3_pack_78 : decode cX3_pack 78 = .ok (.iload_n 3, 1) := by decide +kernel
theorem dX3_pack_79 : decode cX3_pack 79 = .ok (.aload_n 0, 1) := by decide +kernel
theorem dX3_pack_80 : decode cX3_pack 80 = .ok (.iconst 2, 1) := by decide +kernel
theorem dX3_pack_81 : decode cX3_pack 81 = .ok (.iload_n 1, 1) := by decide +kernel
theorem dX3_pack_82 : decode cX3_pack 82 = .ok (.iload_n 2, 1) := by decide +kernel
theorem dX3_pack_83 : decode cX3_pack 83 = .ok (.invokevirtual 56, 3) := by decide +kernel
theorem dX3_pack_86 : decode cX3_pack 86 = .ok (.invokestatic 60, 3) := by decide +kernel
theorem dX3_pack_89 : decode cX3_pack 89 = .ok (.iload_n 2, 1) := by decide +kernel
theorem dX3_pack_90 : decode cX3_pack 90 = .ok (.invokestatic 39, 3) := by decide +kernel
theorem dX3_pack_93 : decode cX3_pack 93 = .ok (.lor, 1) := by decide +kernel
theorem dX3_pack_94 : decode cX3_pack 94 = .ok (.lastore, 1) := by decide +kernel
theorem dX3_pack_95 : decode cX3_pack 95 = .ok (.aload_n 0, 1) := by decide +kernel
theorem dX3_pack_96 : decode cX3_pack 96 = .ok (.getfield 19, 3) := by decide +kernel
theorem dX3_pack_99 : decode cX3_pack 99 = .ok (.iload_n 1, 1) := by decide +kernel
theorem dX3_pack_100 : decode cX3_pack 100 = .ok (.dup2, 1) := by decide +kernel
theorem dX3_pack_101 : decode cX3_pack 101 = .ok (.laload, 1) := by decide +kernel
theorem dX3_pack_102 : decode cX3_pack 102 = .ok (.iload 4, 2) := by decide +kernel
theorem dX3_pack_104 : decode cX3_pack 104 = .ok (.ifCond .le 10, 3) := by decide +kernel
theorem dX3_pack_107 : decode cX3_pack 107 = .ok (.iload 4, 2) := by decide +kernel
theorem dX3_pack_109 : decode cX3_pack 109 = .ok (.iconst 1, 1) := by decide +kernel
theorem dX3_pack_110 : decode cX3_pack 110 = .ok (.isub, 1) := by decide +kernel
theorem dX3_pack_111 : decode cX3_pack 111 = .ok (.goto 5, 3) := by decide +kernel
theorem dX3_pack_114 : decode cX3_pack 114 = .ok (.bipush 99, 2) := by decide +kernel
theorem dX3_pack_116 : decode cX3_pack 116 = .ok (.iload_n 2, 1) := by decide +kernel
theorem dX3_pack_117 : decode cX3_pack 117 = .ok (.invokestatic 39, 3) := by decide +kernel
theorem dX3_pack_120 : decode cX3_pack 120 = .ok (.lor, 1) := by decide +kernel
theorem dX3_pack_121 : decode cX3_pack 121 = .ok (.lastore, 1) := by decide +kernel
theorem dX3_pack_122 : decode cX3_pack 122 = .ok (.aload_n 0, 1) := by decide +kernel
theorem dX3_pack_123 : decode cX3_pack 123 = .ok (.iconst 4, 1) := by decide +kernel
theorem dX3_pack_124 : decode cX3_pack 124 = .ok (.iload_n 1, 1) := by decide +kernel
theorem dX3_pack_125 : decode cX3_pack 125 = .ok (.iload_n 2, 1) := by decide +kernel
theorem dX3_pack_126 : decode cX3_pack 126 = .ok (.invokevirtual 56, 3) := by decide +kernel
theorem dX3_pack_129 : decode cX3_pack 129 = .ok (.ifCond .le 23, 3) := by decide +kernel
theorem dX3_pack_132 : decode cX3_pack 132 = .ok (.aload_n 0, 1) := by decide +kernel
theorem dX3_pack_133 : decode cX3_pack 133 = .ok (.getfield 22, 3) := by decide +kernel
theorem dX3_pack_136 : decode cX3_pack 136 = .ok (.iload_n 1, 1) := by decide +kernel
theorem dX3_pack_137 : decode cX3_pack 137 = .ok (.dup2, 1) := by decide +kernel
theorem dX3_pack_138 : decode cX3_pack 138 = .ok (.laload, 1) := by decide +kernel
theorem dX3_pack_139 : decode cX3_pack 139 = .ok (.ldc2_w 66, 3) := by decide +kernel
theorem dX3_pack_142 : decode cX3_pack 142 = .ok (.bipush 8, 2) := by decide +kernel
theorem dX3_pack_144 : decode cX3_pack 144 = .ok (.iload_n 2, 1) := by decide +kernel
theorem dX3_pack_145 : decode cX3_pack 145 = .ok (.imul, 1) := by decide +kernel
theorem dX3_pack_146 : decode cX3_pack 146 = .ok (.lshl, 1) := by decide +kernel
theorem dX3_pack_147 : decode cX3_pack 147 = .ok (.lor, 1) := by decide +kernel
theorem dX3_pack_148 : decode cX3_pack 148 = .ok (.lastore, 1) := by decide +kernel
theorem dX3_pack_149 : decode cX3_pack 149 = .ok (.goto 17, 3) := by decide +kernel
theorem dX3_pack_152 : decode cX3_pack 152 = .ok (.aload_n 0, 1) := by decide +kernel
theorem dX3_pack_153 : decode cX3_pack 153 = .ok (.getfield 25, 3) := by decide +kernel
theorem dX3_pack_156 : decode cX3_pack 156 = .ok (.iload_n 1, 1) := by decide +kernel
theorem dX3_pack_157 : decode cX3_pack 157 = .ok (.dup2, 1) := by decide +kernel
theorem dX3_pack_158 : decode cX3_pack 158 = .ok (.laload, 1) := by decide +kernel
theorem dX3_pack_159 : decode cX3_pack 159 = .ok (.iload_n 3, 1) := by decide +kernel
theorem dX3_pack_160 : decode cX3_pack 160 = .ok (.iload_n 2, 1) := by decide +kernel
theorem dX3_pack_161 : decode cX3_pack 161 = .ok (.invokestatic 39, 3) := by decide +kernel
theorem dX3_pack_164 : decode cX3_pack 164 = .ok (.lor, 1) := by decide +kernel
theorem dX3_pack_165 : decode cX3_pack 165 = .ok (.lastore, 1) := by decide +kernel
theorem dX3_pack_166 : decode cX3_pack 166 = .ok (.aload_n 0, 1) := by decide +kernel
theorem dX3_pack_167 : decode cX3_pack 167 = .ok (.getfield 28, 3) := by decide +kernel
theorem dX3_pack_170 : decode cX3_pack 170 = .ok (.iload_n 1, 1) := by decide +kernel
theorem dX3_pack_171 : decode cX3_pack 171 = .ok (.dup2, 1) := by decide +kernel
theorem dX3_pack_172 : decode cX3_pack 172 = .ok (.laload, 1) := by decide +kernel
theorem dX3_pack_173 : decode cX3_pack 173 = .ok (.aload_n 0, 1) := by decide +kernel
theorem dX3_pack_174 : decode cX3_pack 174 = .ok (.iconst 1, 1) := by decide +kernel
theorem dX3_pack_175 : decode cX3_pack 175 = .ok (.iload_n 1, 1) := by decide +kernel
theorem dX3_pack_176 : decode cX3_pack 176 = .ok (.iload_n 2, 1) := by decide +kernel
theorem dX3_pack_177 : decode cX3_pack 177 = .ok (.invokevirtual 56, 3) := by decide +kernel
theorem dX3_pack_180 : decode cX3_pack 180 = .ok (.iload_n 2, 1) := by decide +kernel
theorem dX3_pack_181 : decode cX3_pack 181 = .ok (.invokestatic 39, 3) := by decide +kernel
theorem dX3_pack_184 : decode cX3_pack 184 = .ok (.lor, 1) := by decide +kernel
theorem dX3_pack_185 : decode cX3_pack 185 = .ok (.lastore, 1) := by decide +kernel
theorem dX3_pack_186 : decode cX3_pack 186 = .ok (.iinc 2 1, 3) := by decide +kernel
theorem dX3_pack_189 : decode cX3_pack 189 = .ok (.goto (-141), 3) := by decide +kernel
theorem dX3_pack_192 : decode cX3_pack 192 = .ok (.return_, 1) := by decide +kernel
theorem dX3_packed_0 : decode cX3_packed 0 = .ok (.iload_n 0, 1) := by decide +kernel
theorem dX3_packed_1 : decode cX3_packed 1 = .ok (.i2l, 1) := by decide +kernel
theorem dX3_packed_2 : decode cX3_packed 2 = .ok (.bipush 8, 2) := by decide +kernel
theorem dX3_packed_4 : decode cX3_packed 4 = .ok (.iload_n 1, 1) := by decide +kernel
theorem dX3_packed_5 : decode cX3_packed 5 = .ok (.imul, 1) := by decide +kernel
theorem dX3_packed_6 : decode cX3_packed 6 = .ok (.lshl, 1) := by decide +kernel
theorem dX3_packed_7 : decode cX3_packed 7 = .ok (.lreturn, 1) := by decide +kernel
theorem dX3_tokensIn_0 : decode cX3_tokensIn 0 = .ok (.lload_n 0, 1) := by decide +kernel
theorem dX3_tokensIn_1 : decode cX3_tokensIn 1 = .ok (.bipush 8, 2) := by decide +kernel
theorem dX3_tokensIn_3 : decode cX3_tokensIn 3 = .ok (.iload_n 2, 1) := by decide +kernel
theorem dX3_tokensIn_4 : decode cX3_tokensIn 4 = .ok (.imul, 1) := by decide +kernel
theorem dX3_tokensIn_5 : decode cX3_tokensIn 5 = .ok (.lshr, 1) := by decide +kernel
theorem dX3_tokensIn_6 : decode cX3_tokensIn 6 = .ok (.ldc2_w 66, 3) := by decide +kernel
theorem dX3_tokensIn_9 : decode cX3_tokensIn 9 = .ok (.land, 1) := by decide +kernel
theorem dX3_tokensIn_10 : decode cX3_tokensIn 10 = .ok (.l2i, 1) := by decide +kernel
theorem dX3_tokensIn_11 : decode cX3_tokensIn 11 = .ok (.ireturn, 1) := by decide +kernel
theorem dX3_isAtMost_0 : decode cX3_isAtMost 0 = .ok (.lload_n 2, 1) := by decide +kernel
theorem dX3_isAtMost_1 : decode cX3_isAtMost 1 = .ok (.ldc2_w 68, 3) := by decide +kernel
theorem dX3_isAtMost_4 : decode cX3_isAtMost 4 = .ok (.lor, 1) := by decide +kernel
theorem dX3_isAtMost_5 : decode cX3_isAtMost 5 = .ok (.lload_n 0, 1) := by decide +kernel
theorem dX3_isAtMost_6 : decode cX3_isAtMost 6 = .ok (.lsub, 1) := by decide +kernel
theorem dX3_isAtMost_7 : decode cX3_isAtMost 7 = .ok (.ldc2_w 68, 3) := by decide +kernel
theorem dX3_isAtMost_10 : decode cX3_isAtMost 10 = .ok (.land, 1) := by decide +kernel
theorem dX3_isAtMost_11 : decode cX3_isAtMost 11 = .ok (.ldc2_w 68, 3) := by decide +kernel
theorem dX3_isAtMost_14 : decode cX3_isAtMost 14 = .ok (.lcmp, 1) := by decide +kernel
theorem dX3_isAtMost_15 : decode cX3_isAtMost 15 = .ok (.ifCond .ne 7, 3) := by decide +kernel
theorem dX3_isAtMost_18 : decode cX3_isAtMost 18 = .ok (.iconst 1, 1) := by decide +kernel
theorem dX3_isAtMost_19 : decode cX3_isAtMost 19 = .ok (.goto 4, 3) := by decide +kernel
theorem dX3_isAtMost_22 : decode cX3_isAtMost 22 = .ok (.iconst 0, 1) := by decide +kernel
theorem dX3_isAtMost_23 : decode cX3_isAtMost 23 = .ok (.ireturn, 1) := by decide +kernel
theorem dX3_allows_0 : decode cX3_allows 0 = .ok (.iload_n 3, 1) := by decide +kernel
theorem dX3_allows_1 : decode cX3_allows 1 = .ok (.ifCond .lt 54, 3) := by decide +kernel
theorem dX3_allows_4 : decode cX3_allows 4 = .ok (.iload_n 3, 1) := by decide +kernel
theorem dX3_allows_5 : decode cX3_allows 5 = .ok (.bipush 8, 2) := by decide +kernel
theorem dX3_allows_7 : decode cX3_allows 7 = .ok (.if_icmp .ge 48, 3) := by decide +kernel
theorem dX3_allows_10 : decode cX3_allows 10 = .ok (.aload_n 0, 1) := by decide +kernel
theorem dX3_allows_11 : decode cX3_allows 11 = .ok (.getfield 15, 3) := by decide +kernel
theorem dX3_allows_14 : decode cX3_allows 14 = .ok (.iload_n 3, 1) := by decide +kernel
theorem dX3_allows_15 : decode cX3_allows 15 = .ok (.laload, 1) := by decide +kernel
theorem dX3_allows_16 : decode cX3_allows 16 = .ok (.lload_n 1, 1) := by decide +kernel
theorem dX3_allows_17 : decode cX3_allows 17 = .ok (.invokestatic 70, 3) := by decide +kernel
theorem dX3_allows_20 : decode cX3_allows 20 = .ok (.ifCond .eq 35, 3) := by decide +kernel
theorem dX3_allows_23 : decode cX3_allows 23 = .ok (.lload_n 1, 1) := by decide +kernel
theorem dX3_allows_24 : decode cX3_allows 24 = .ok (.aload_n 0, 1) := by decide +kernel
theorem dX3_allows_25 : decode cX3_allows 25 = .ok (.getfield 19, 3) := by decide +kernel
theorem dX3_allows_28 : decode cX3_allows 28 = .ok (.iload_n 3, 1) := by decide +kernel
theorem dX3_allows_29 : decode cX3_allows 29 = .ok (.laload, 1) := by decide +kernel
theorem dX3_allows_30 : decode cX3_allows 30 = .ok (.invokestatic 70, 3) := by decide +kernel
theorem dX3_allows_33 : decode cX3_allows 33 = .ok (.ifCond .eq 22, 3) := by decide +kernel
theorem dX3_allows_36 : decode cX3_allows 36 = .ok (.aload_n 0, 1) := by decide +kernel
theorem dX3_allows_37 : decode cX3_allows 37 = .ok (.lload_n 1, 1) := by decide +kernel
theorem dX3_allows_38 : decode cX3_allows 38 = .ok (.iload_n 3, 1) := by decide +kernel
theorem dX3_allows_39 : decode cX3_allows 39 = .ok (.invokevirtual 74, 3) := by decide +kernel
theorem dX3_allows_42 : decode cX3_allows 42 = .ok (.ldc2_w 78, 3) := by decide +kernel
theorem dX3_allows_45 : decode cX3_allows 45 = .ok (.invokestatic 70, 3) := by decide +kernel
theorem dX3_allows_48 : decode cX3_allows 48 = .ok (.ifCond .eq 7, 3) := by decide +kernel
theorem dX3_allows_51 : decode cX3_allows 51 = .ok (.iconst 1, 1) := by decide +kernel
theorem dX3_allows_52 : decode cX3_allows 52 = .ok (.goto 4, 3) := by decide +kernel
theorem dX3_allows_55 : decode cX3_allows 55 = .ok (.iconst 0, 1) := by decide +kernel
theorem dX3_allows_56 : decode cX3_allows 56 = .ok (.ireturn, 1) := by decide +kernel
theorem dX3_behind_0 : decode cX3_behind 0 = .ok (.iload_n 3, 1) := by decide +kernel
theorem dX3_behind_1 : decode cX3_behind 1 = .ok (.ifCond .lt 9, 3) := by decide +kernel
theorem dX3_behind_4 : decode cX3_behind 4 = .ok (.iload_n 3, 1) := by decide +kernel
theorem dX3_behind_5 : decode cX3_behind 5 = .ok (.bipush 8, 2) := by decide +kernel
theorem dX3_behind_7 : decode cX3_behind 7 = .ok (.if_icmp .lt 5, 3) := by decide +kernel
theorem dX3_behind_10 : decode cX3_behind 10 = .ok (.lload_n 1, 1) := by decide +kernel
theorem dX3_behind_11 : decode cX3_behind 11 = .ok (.lreturn, 1) := by decide +kernel
theorem dX3_behind_12 : decode cX3_behind 12 = .ok (.lload_n 1, 1) := by decide +kernel
theorem dX3_behind_13 : decode cX3_behind 13 = .ok (.aload_n 0, 1) := by decide +kernel
theorem dX3_behind_14 : decode cX3_behind 14 = .ok (.getfield 22, 3) := by decide +kernel
theorem dX3_behind_17 : decode cX3_behind 17 = .ok (.iload_n 3, 1) := by decide +kernel
theorem dX3_behind_18 : decode cX3_behind 18 = .ok (.laload, 1) := by decide +kernel
theorem dX3_behind_19 : decode cX3_behind 19 = .ok (.ldc2_w 80, 3) := by decide +kernel
theorem dX3_behind_22 : decode cX3_behind 22 = .ok (.lxor, 1) := by decide +kernel
theorem dX3_behind_23 : decode cX3_behind 23 = .ok (.land, 1) := by decide +kernel
theorem dX3_behind_24 : decode cX3_behind 24 = .ok (.aload_n 0, 1) := by decide +kernel
theorem dX3_behind_25 : decode cX3_behind 25 = .ok (.getfield 25, 3) := by decide +kernel
theorem dX3_behind_28 : decode cX3_behind 28 = .ok (.iload_n 3, 1) := by decide +kernel
theorem dX3_behind_29 : decode cX3_behind 29 = .ok (.laload, 1) := by decide +kernel
theorem dX3_behind_30 : decode cX3_behind 30 = .ok (.lsub, 1) := by decide +kernel
theorem dX3_behind_31 : decode cX3_behind 31 = .ok (.aload_n 0, 1) := by decide +kernel
theorem dX3_behind_32 : decode cX3_behind 32 = .ok (.getfield 28, 3) := by decide +kernel
theorem dX3_behind_35 : decode cX3_behind 35 = .ok (.iload_n 3, 1) := by decide +kernel
theorem dX3_behind_36 : decode cX3_behind 36 = .ok (.laload, 1) := by decide +kernel
theorem dX3_behind_37 : decode cX3_behind 37 = .ok (.ladd, 1) := by decide +kernel
theorem dX3_behind_38 : decode cX3_behind 38 = .ok (.lreturn, 1) := by decide +kernel
theorem dX3_moveBy_0 : decode cX3_moveBy 0 = .ok (.aload_n 0, 1) := by decide +kernel
theorem dX3_moveBy_1 : decode cX3_moveBy 1 = .ok (.aload_n 0, 1) := by decide +kernel
theorem dX3_moveBy_2 : decode cX3_moveBy 2 = .ok (.aload_n 0, 1) := by decide +kernel
theorem dX3_moveBy_3 : decode cX3_moveBy 3 = .ok (.getfield 35, 3) := by decide +kernel
theorem dX3_moveBy_6 : decode cX3_moveBy 6 = .ok (.iload_n 1, 1) := by decide +kernel
theorem dX3_moveBy_7 : decode cX3_moveBy 7 = .ok (.invokevirtual 74, 3) := by decide +kernel
theorem dX3_moveBy_10 : decode cX3_moveBy 10 = .ok (.putfield 35, 3) := by decide +kernel
theorem dX3_moveBy_13 : decode cX3_moveBy 13 = .ok (.aload_n 0, 1) := by decide +kernel
theorem dX3_moveBy_14 : decode cX3_moveBy 14 = .ok (.dup, 1) := by decide +kernel
theorem dX3_moveBy_15 : decode cX3_moveBy 15 = .ok (.getfield 82, 3) := by decide +kernel
theorem dX3_moveBy_18 : decode cX3_moveBy 18 = .ok (.iconst 1, 1) := by decide +kernel
theorem dX3_moveBy_19 : decode cX3_moveBy 19 = .ok (.iadd, 1) := by decide +kernel
theorem dX3_moveBy_20 : decode cX3_moveBy 20 = .ok (.putfield 82, 3) := by decide +kernel
theorem dX3_moveBy_23 : decode cX3_moveBy 23 = .ok (.aload_n 0, 1) := by decide +kernel
theorem dX3_moveBy_24 : decode cX3_moveBy 24 = .ok (.dup, 1) := by decide +kernel
theorem dX3_moveBy_25 : decode cX3_moveBy 25 = .ok (.getfield 46, 3) := by decide +kernel
theorem dX3_moveBy_28 : decode cX3_moveBy 28 = .ok (.iconst 1, 1) := by decide +kernel
theorem dX3_moveBy_29 : decode cX3_moveBy 29 = .ok (.iadd, 1) := by decide +kernel
theorem dX3_moveBy_30 : decode cX3_moveBy 30 = .ok (.putfield 46, 3) := by decide +kernel
theorem dX3_moveBy_33 : decode cX3_moveBy 33 = .ok (.aload_n 0, 1) := by decide +kernel
theorem dX3_moveBy_34 : decode cX3_moveBy 34 = .ok (.getfield 82, 3) := by decide +kernel
theorem dX3_moveBy_37 : decode cX3_moveBy 37 = .ok (.ireturn, 1) := by decide +kernel
theorem dX3_hasTokenIn_0 : decode cX3_hasTokenIn 0 = .ok (.iconst 0, 1) := by decide +kernel
theorem dX3_hasTokenIn_1 : decode cX3_hasTokenIn 1 = .ok (.istore_n 2, 1) := by decide +kernel
theorem dX3_hasTokenIn_2 : decode cX3_hasTokenIn 2 = .ok (.iload_n 2, 1) := by decide +kernel
theorem dX3_hasTokenIn_3 : decode cX3_hasTokenIn 3 = .ok (.aload_n 0, 1) := by decide +kernel
theorem dX3_hasTokenIn_4 : decode cX3_hasTokenIn 4 = .ok (.getfield 31, 3) := by decide +kernel
theorem dX3_hasTokenIn_7 : decode cX3_hasTokenIn 7 = .ok (.if_icmp .ge 31, 3) := by decide +kernel
theorem dX3_hasTokenIn_10 : decode cX3_hasTokenIn 10 = .ok (.iload_n 1, 1) := by decide +kernel
theorem dX3_hasTokenIn_11 : decode cX3_hasTokenIn 11 = .ok (.iload_n 2, 1) := by decide +kernel
theorem dX3_hasTokenIn_12 : decode cX3_hasTokenIn 12 = .ok (.ishr, 1) := by decide +kernel
theorem dX3_hasTokenIn_13 : decode cX3_hasTokenIn 13 = .ok (.iconst 1, 1) := by decide +kernel
theorem dX3_hasTokenIn_14 : decode cX3_hasTokenIn 14 = .ok (.iand, 1) := by decide +kernel
theorem dX3_hasTokenIn_15 : decode cX3_hasTokenIn 15 = .ok (.iconst 1, 1) := by decide +kernel
theorem dX3_hasTokenIn_16 : decode cX3_hasTokenIn 16 = .ok (.if_icmp .ne 16, 3) := by decide +kernel
theorem dX3_hasTokenIn_19 : decode cX3_hasTokenIn 19 = .ok (.aload_n 0, 1) := by decide +kernel
theorem dX3_hasTokenIn_20 : decode cX3_hasTokenIn 20 = .ok (.getfield 35, 3) := by decide +kernel
theorem dX3_hasTokenIn_23 : decode cX3_hasTokenIn 23 = .ok (.iload_n 2, 1) := by decide +kernel
theorem dX3_hasTokenIn_24 : decode cX3_hasTokenIn 24 = .ok (.invokestatic 85, 3) := by decide +kernel
theorem dX3_hasTokenIn_27 : decode cX3_hasTokenIn 27 = .ok (.ifCond .le 5, 3) := by decide +kernel
theorem dX3_hasTokenIn_30 : decode cX3_hasTokenIn 30 = .ok (.iconst 1, 1) := by decide +kernel
theorem dX3_hasTokenIn_31 : decode cX3_hasTokenIn 31 = .ok (.ireturn, 1) := by decide +kernel
theorem dX3_hasTokenIn_32 : decode cX3_hasTokenIn 32 = .ok (.iinc 2 1, 3) := by decide +kernel
theorem dX3_hasTokenIn_35 : decode cX3_hasTokenIn 35 = .ok (.goto (-33), 3) := by decide +kernel
theorem dX3_hasTokenIn_38 : decode cX3_hasTokenIn 38 = .ok (.iconst 0, 1) := by decide +kernel
theorem dX3_hasTokenIn_39 : decode cX3_hasTokenIn 39 = .ok (.ireturn, 1) := by decide +kernel
theorem dX3_placesWith_0 : decode cX3_placesWith 0 = .ok (.iconst 0, 1) := by decide +kernel
theorem dX3_placesWith_1 : decode cX3_placesWith 1 = .ok (.istore_n 3, 1) := by decide +kernel
theorem dX3_placesWith_2 : decode cX3_placesWith 2 = .ok (.iconst 0, 1) := by decide +kernel
theorem dX3_placesWith_3 : decode cX3_placesWith 3 = .ok (.istore 4, 2) := by decide +kernel
theorem dX3_placesWith_5 : decode cX3_placesWith 5 = .ok (.iload 4, 2) := by decide +kernel
theorem dX3_placesWith_7 : decode cX3_placesWith 7 = .ok (.aload_n 0, 1) := by decide +kernel
theorem dX3_placesWith_8 : decode cX3_placesWith 8 = .ok (.getfield 31, 3) := by decide +kernel
theorem dX3_placesWith_11 : decode cX3_placesWith 11 = .ok (.if_icmp .ge 27, 3) := by decide +kernel
theorem dX3_placesWith_14 : decode cX3_placesWith 14 = .ok (.aload_n 0, 1) := by decide +kernel
theorem dX3_placesWith_15 : decode cX3_placesWith 15 = .ok (.iload_n 1, 1) := by decide +kernel
theorem dX3_placesWith_16 : decode cX3_placesWith 16 = .ok (.iload_n 2, 1) := by decide +kernel
theorem dX3_placesWith_17 : decode cX3_placesWith 17 = .ok (.iload 4, 2) := by decide +kernel
theorem dX3_placesWith_19 : decode cX3_placesWith 19 = .ok (.invokevirtual 56, 3) := by decide +kernel
theorem dX3_placesWith_22 : decode cX3_placesWith 22 = .ok (.ifCond .le 10, 3) := by decide +kernel
theorem dX3_placesWith_25 : decode cX3_placesWith 25 = .ok (.iload_n 3, 1) := by decide +kernel
theorem dX3_placesWith_26 : decode cX3_placesWith 26 = .ok (.iconst 1, 1) := by decide +kernel
theorem dX3_placesWith_27 : decode cX3_placesWith 27 = .ok (.iload 4, 2) := by decide +kernel
theorem dX3_placesWith_29 : decode cX3_placesWith 29 = .ok (.ishl, 1) := by decide +kernel
theorem dX3_placesWith_30 : decode cX3_placesWith 30 = .ok (.ior, 1) := by decide +kernel
theorem dX3_placesWith_31 : decode cX3_placesWith 31 = .ok (.istore_n 3, 1) := by decide +kernel
theorem dX3_placesWith_32 : decode cX3_placesWith 32 = .ok (.iinc 4 1, 3) := by decide +kernel
theorem dX3_placesWith_35 : decode cX3_placesWith 35 = .ok (.goto (-30), 3) := by decide +kernel
theorem dX3_placesWith_38 : decode cX3_placesWith 38 = .ok (.iload_n 3, 1) := by decide +kernel
theorem dX3_placesWith_39 : decode cX3_placesWith 39 = .ok (.ireturn, 1) := by decide +kernel
theorem dX3_isEmptied_0 : decode cX3_isEmptied 0 = .ok (.iconst 0, 1) := by decide +kernel
theorem dX3_isEmptied_1 : decode cX3_isEmptied 1 = .ok (.istore_n 2, 1) := by decide +kernel
theorem dX3_isEmptied_2 : decode cX3_isEmptied 2 = .ok (.iload_n 2, 1) := by decide +kernel
theorem dX3_isEmptied_3 : decode cX3_isEmptied 3 = .ok (.aload_n 0, 1) := by decide +kernel
theorem dX3_isEmptied_4 : decode cX3_isEmptied 4 = .ok (.getfield 49, 3) := by decide +kernel
theorem dX3_isEmptied_7 : decode cX3_isEmptied 7 = .ok (.if_icmp .ge 21, 3) := by decide +kernel
theorem dX3_isEmptied_10 : decode cX3_isEmptied 10 = .ok (.aload_n 0, 1) := by decide +kernel
theorem dX3_isEmptied_11 : decode cX3_isEmptied 11 = .ok (.iconst 4, 1) := by decide +kernel
theorem dX3_isEmptied_12 : decode cX3_isEmptied 12 = .ok (.iload_n 2, 1) := by decide +kernel
theorem dX3_isEmptied_13 : decode cX3_isEmptied 13 = .ok (.iload_n 1, 1) := by decide +kernel
theorem dX3_isEmptied_14 : decode cX3_isEmptied 14 = .ok (.invokevirtual 56, 3) := by decide +kernel
theorem dX3_isEmptied_17 : decode cX3_isEmptied 17 = .ok (.ifCond .le 5, 3) := by decide +kernel
theorem dX3_isEmptied_20 : decode cX3_isEmptied 20 = .ok (.iconst 1, 1) := by decide +kernel
theorem dX3_isEmptied_21 : decode cX3_isEmptied 21 = .ok (.ireturn, 1) := by decide +kernel
theorem dX3_isEmptied_22 : decode cX3_isEmptied 22 = .ok (.iinc 2 1, 3) := by decide +kernel
theorem dX3_isEmptied_25 : decode cX3_isEmptied 25 = .ok (.goto (-23), 3) := by decide +kernel
theorem dX3_isEmptied_28 : decode cX3_isEmptied 28 = .ok (.iconst 0, 1) := by decide +kernel
theorem dX3_isEmptied_29 : decode cX3_isEmptied 29 = .ok (.ireturn, 1) := by decide +kernel
theorem dX3_gain_0 : decode cX3_gain 0 = .ok (.aload_n 0, 1) := by decide +kernel
theorem dX3_gain_1 : decode cX3_gain 1 = .ok (.iconst 1, 1) := by decide +kernel
theorem dX3_gain_2 : decode cX3_gain 2 = .ok (.iload_n 1, 1) := by decide +kernel
theorem dX3_gain_3 : decode cX3_gain 3 = .ok (.iload_n 2, 1) := by decide +kernel
theorem dX3_gain_4 : decode cX3_gain 4 = .ok (.invokevirtual 56, 3) := by decide +kernel
theorem dX3_gain_7 : decode cX3_gain 7 = .ok (.aload_n 0, 1) := by decide +kernel
theorem dX3_gain_8 : decode cX3_gain 8 = .ok (.iconst 0, 1) := by decide +kernel
theorem dX3_gain_9 : decode cX3_gain 9 = .ok (.iload_n 1, 1) := by decide +kernel
theorem dX3_gain_10 : decode cX3_gain 10 = .ok (.iload_n 2, 1) := by decide +kernel
theorem dX3_gain_11 : decode cX3_gain 11 = .ok (.invokevirtual 56, 3) := by decide +kernel
theorem dX3_gain_14 : decode cX3_gain 14 = .ok (.isub, 1) := by decide +kernel
theorem dX3_gain_15 : decode cX3_gain 15 = .ok (.i2l, 1) := by decide +kernel
theorem dX3_gain_16 : decode cX3_gain 16 = .ok (.lreturn, 1) := by decide +kernel
theorem dX3_gainsOfPlace_0 : decode cX3_gainsOfPlace 0 = .ok (.lconst 0, 1) := by decide +kernel
theorem dX3_gainsOfPlace_1 : decode cX3_gainsOfPlace 1 = .ok (.lstore_n 2, 1) := by decide +kernel
theorem dX3_gainsOfPlace_2 : decode cX3_gainsOfPlace 2 = .ok (.iconst 0, 1) := by decide +kernel
theorem dX3_gainsOfPlace_3 : decode cX3_gainsOfPlace 3 = .ok (.istore 4, 2) := by decide +kernel
theorem dX3_gainsOfPlace_5 : decode cX3_gainsOfPlace 5 = .ok (.iload 4, 2) := by decide +kernel
theorem dX3_gainsOfPlace_7 : decode cX3_gainsOfPlace 7 = .ok (.aload_n 0, 1) := by decide +kernel
theorem dX3_gainsOfPlace_8 : decode cX3_gainsOfPlace 8 = .ok (.getfield 49, 3) := by decide +kernel
theorem dX3_gainsOfPlace_11 : decode cX3_gainsOfPlace 11 = .ok (.if_icmp .ge 25, 3) := by decide +kernel
theorem dX3_gainsOfPlace_14 : decode cX3_gainsOfPlace 14 = .ok (.lload_n 2, 1) := by decide +kernel
theorem dX3_gainsOfPlace_15 : decode cX3_gainsOfPlace 15 = .ok (.aload_n 0, 1) := by decide +kernel
theorem dX3_gainsOfPlace_16 : decode cX3_gainsOfPlace 16 = .ok (.iload 4, 2) := by decide +kernel
theorem dX3_gainsOfPlace_18 : decode cX3_gainsOfPlace 18 = .ok (.iload_n 1, 1) := by decide +kernel
theorem dX3_gainsOfPlace_19 : decode cX3_gainsOfPlace 19 = .ok (.invokevirtual 89, 3) := by decide +kernel
theorem dX3_gainsOfPlace_22 : decode cX3_gainsOfPlace 22 = .ok (.bipush 8, 2) := by decide +kernel
theorem dX3_gainsOfPlace_24 : decode cX3_gainsOfPlace 24 = .ok (.iload 4, 2) := by decide +kernel
theorem dX3_gainsOfPlace_26 : decode cX3_gainsOfPlace 26 = .ok (.imul, 1) := by decide +kernel
theorem dX3_gainsOfPlace_27 : decode cX3_gainsOfPlace 27 = .ok (.lshl, 1) := by decide +kernel
theorem dX3_gainsOfPlace_28 : decode cX3_gainsOfPlace 28 = .ok (.ladd, 1) := by decide +kernel
theorem dX3_gainsOfPlace_29 : decode cX3_gainsOfPlace 29 = .ok (.lstore_n 2, 1) := by decide +kernel
theorem dX3_gainsOfPlace_30 : decode cX3_gainsOfPlace 30 = .ok (.iinc 4 1, 3) := by decide +kernel
theorem dX3_gainsOfPlace_33 : decode cX3_gainsOfPlace 33 = .ok (.goto (-28), 3) := by decide +kernel
theorem dX3_gainsOfPlace_36 : decode cX3_gainsOfPlace 36 = .ok (.lload_n 2, 1) := by decide +kernel
theorem dX3_gainsOfPlace_37 : decode cX3_gainsOfPlace 37 = .ok (.lreturn, 1) := by decide +kernel
theorem dX3_gainsOfFiring_0 : decode cX3_gainsOfFiring 0 = .ok (.lconst 0, 1) := by decide +kernel
theorem dX3_gainsOfFiring_1 : decode cX3_gainsOfFiring 1 = .ok (.lstore_n 2, 1) := by decide +kernel
theorem dX3_gainsOfFiring_2 : decode cX3_gainsOfFiring 2 = .ok (.iconst 0, 1) := by decide +kernel
theorem dX3_gainsOfFiring_3 : decode cX3_gainsOfFiring 3 = .ok (.istore 4, 2) := by decide +kernel
theorem dX3_gainsOfFiring_5 : decode cX3_gainsOfFiring 5 = .ok (.iload 4, 2) := by decide +kernel
theorem dX3_gainsOfFiring_7 : decode cX3_gainsOfFiring 7 = .ok (.aload_n 0, 1) := by decide +kernel
theorem dX3_gainsOfFiring_8 : decode cX3_gainsOfFiring 8 = .ok (.getfield 31, 3) := by decide +kernel
theorem dX3_gainsOfFiring_11 : decode cX3_gainsOfFiring 11 = .ok (.if_icmp .ge 25, 3) := by decide +kernel
theorem dX3_gainsOfFiring_14 : decode cX3_gainsOfFiring 14 = .ok (.lload_n 2, 1) := by decide +kernel
theorem dX3_gainsOfFiring_15 : decode cX3_gainsOfFiring 15 = .ok (.aload_n 0, 1) := by decide +kernel
theorem dX3_gainsOfFiring_16 : decode cX3_gainsOfFiring 16 = .ok (.iload_n 1, 1) := by decide +kernel
theorem dX3_gainsOfFiring_17 : decode cX3_gainsOfFiring 17 = .ok (.iload 4, 2) := by decide +kernel
theorem dX3_gainsOfFiring_19 : decode cX3_gainsOfFiring 19 = .ok (.invokevirtual 89, 3) := by decide +kernel
theorem dX3_gainsOfFiring_22 : decode cX3_gainsOfFiring 22 = .ok (.bipush 8, 2) := by decide +kernel
theorem dX3_gainsOfFiring_24 : decode cX3_gainsOfFiring 24 = .ok (.iload 4, 2) := by decide +kernel
theorem dX3_gainsOfFiring_26 : decode cX3_gainsOfFiring 26 = .ok (.imul, 1) := by decide +kernel
theorem dX3_gainsOfFiring_27 : decode cX3_gainsOfFiring 27 = .ok (.lshl, 1) := by decide +kernel
theorem dX3_gainsOfFiring_28 : decode cX3_gainsOfFiring 28 = .ok (.ladd, 1) := by decide +kernel
theorem dX3_gainsOfFiring_29 : decode cX3_gainsOfFiring 29 = .ok (.lstore_n 2, 1) := by decide +kernel
theorem dX3_gainsOfFiring_30 : decode cX3_gainsOfFiring 30 = .ok (.iinc 4 1, 3) := by decide +kernel
theorem dX3_gainsOfFiring_33 : decode cX3_gainsOfFiring 33 = .ok (.goto (-28), 3) := by decide +kernel
theorem dX3_gainsOfFiring_36 : decode cX3_gainsOfFiring 36 = .ok (.lload_n 2, 1) := by decide +kernel
theorem dX3_gainsOfFiring_37 : decode cX3_gainsOfFiring 37 = .ok (.lreturn, 1) := by decide +kernel
theorem dX4_init_0 : decode cX4_init 0 = .ok (.aload_n 0, 1) := by decide +kernel
theorem dX4_init_1 : decode cX4_init 1 = .ok (.invokespecial 3, 3) := by decide +kernel
theorem dX4_init_4 : decode cX4_init 4 = .ok (.aload_n 0, 1) := by decide +kernel
theorem dX4_init_5 : decode cX4_init 5 = .ok (.aload_n 1, 1) := by decide +kernel
theorem dX4_init_6 : decode cX4_init 6 = .ok (.putfield 9, 3) := by decide +kernel
theorem dX4_init_9 : decode cX4_init 9 = .ok (.aload_n 0, 1) := by decide +kernel
theorem dX4_init_10 : decode cX4_init 10 = .ok (.bipush 8, 2) := by decide +kernel
theorem dX4_init_12 : decode cX4_init 12 = .ok (.newarray .int, 2) := by decide +kernel
theorem dX4_init_14 : decode cX4_init 14 = .ok (.putfield 15, 3) := by decide +kernel
theorem dX4_init_17 : decode cX4_init 17 = .ok (.aload_n 0, 1) := by decide +kernel
theorem dX4_init_18 : decode cX4_init 18 = .ok (.bipush 8, 2) := by decide +kernel
theorem dX4_init_20 : decode cX4_init 20 = .ok (.newarray .int, 2) := by decide +kernel
theorem dX4_init_22 : decode cX4_init 22 = .ok (.putfield 19, 3) := by decide +kernel
theorem dX4_init_25 : decode cX4_init 25 = .ok (.aload_n 0, 1) := by decide +kernel
theorem dX4_init_26 : decode cX4_init 26 = .ok (.bipush 8, 2) := by decide +kernel
theorem dX4_init_28 : decode cX4_init 28 = .ok (.newarray .int, 2) := by decide +kernel
theorem dX4_init_30 : decode cX4_init 30 = .ok (.putfield 22, 3) := by decide +kernel
theorem dX4_init_33 : decode cX4_init 33 = .ok (.aload_n 0, 1) := by decide +kernel
theorem dX4_init_34 : decode cX4_init 34 = .ok (.bipush 20, 2) := by decide +kernel
theorem dX4_init_36 : decode cX4_init 36 = .ok (.newarray .int, 2) := by decide +kernel
theorem dX4_init_38 : decode cX4_init 38 = .ok (.putfield 25, 3) := by decide +kernel
theorem dX4_init_41 : decode cX4_init 41 = .ok (.aload_n 0, 1) := by decide +kernel
theorem dX4_init_42 : decode cX4_init 42 = .ok (.iconst (-1), 1) := by decide +kernel
theorem dX4_init_43 : decode cX4_init 43 = .ok (.putfield 28, 3) := by decide +kernel
theorem dX4_init_46 : decode cX4_init 46 = .ok (.return_, 1) := by decide +kernel
theorem dX4_refresh_0 : decode cX4_refresh 0 = .ok (.aload_n 0, 1) := by decide +kernel
theorem dX4_refresh_1 : decode cX4_refresh 1 = .ok (.getfield 28, 3) := by decide +kernel
theorem dX4_refresh_4 : decode cX4_refresh 4 = .ok (.aload_n 0, 1) := by decide +kernel
theorem dX4_refresh_5 : decode cX4_refresh 5 = .ok (.getfield 9, 3) := by decide +kernel
theorem dX4_refresh_8 : decode cX4_refresh 8 = .ok (.getfield 32, 3) := by decide +kernel
theorem dX4_refresh_11 : decode cX4_refresh 11 = .ok (.if_icmp .ne 4, 3) := by decide +kernel
theorem dX4_refresh_14 : decode cX4_refresh 14 = .ok (.return_, 1) := by decide +kernel
theorem dX4_refresh_15 : decode cX4_refresh 15 = .ok (.aload_n 0, 1) := by decide +kernel
theorem dX4_refresh_16 : decode cX4_refresh 16 = .ok (.aload_n 0, 1) := by decide +kernel
theorem dX4_refresh_17 : decode cX4_refresh 17 = .ok (.getfield 9, 3) := by decide +kernel
theorem dX4_refresh_20 : decode cX4_refresh 20 = .ok (.getfield 32, 3) := by decide +kernel
theorem dX4_refresh_23 : decode cX4_refresh 23 = .ok (.putfield 28, 3) := by decide +kernel
theorem dX4_refresh_26 : decode cX4_refresh 26 = .ok (.aload_n 0, 1) := by decide +kernel
theorem dX4_refresh_27 : decode cX4_refresh 27 = .ok (.aload_n 0, 1) := by decide +kernel
theorem dX4_refresh_28 : decode cX4_refresh 28 = .ok (.getfield 9, 3) := by decide +kernel
theorem dX4_refresh_31 : decode cX4_refresh 31 = .ok (.getfield 35, 3) := by decide +kernel
theorem dX4_refresh_34 : decode cX4_refresh 34 = .ok (.bipush 8, 2) := by decide +kernel
theorem dX4_refresh_36 : decode cX4_refresh 36 = .ok (.invokestatic 38, 3) := by decide +kernel
theorem dX4_refresh_39 : decode cX4_refresh 39 = .ok (.putfield 44, 3) := by decide +kernel
theorem dX4_refresh_42 : decode cX4_refresh 42 = .ok (.iconst 0, 1) := by decide +kernel
theorem dX4_refresh_43 : decode cX4_refresh 43 = .ok (.istore_n 1, 1) := by decide +kernel
theorem dX4_refresh_44 : decode cX4_refresh 44 = .ok (.iload_n 1, 1) := by decide +kernel
theorem dX4_refresh_45 : decode cX4_refresh 45 = .ok (.aload_n 0, 1) := by decide +kernel
theorem dX4_refresh_46 : decode cX4_refresh 46 = .ok (.getfield 44, 3) := by decide +kernel
theorem dX4_refresh_49 : decode cX4_refresh 49 = .ok (.if_icmp .ge 61, 3) := by decide +kernel
theorem dX4_refresh_52 : decode cX4_refresh 52 = .ok (.aload_n 0, 1) := by decide +kernel
theorem dX4_refresh_53 : decode cX4_refresh 53 = .ok (.getfield 15, 3) := by decide +kernel
theorem dX4_refresh_56 : decode cX4_refresh 56 = .ok (.iload_n 1, 1) := by decide +kernel
theorem dX4_refresh_57 : decode cX4_refresh 57 = .ok (.aload_n 0, 1) := by decide +kernel
theorem dX4_refresh_58 : decode cX4_refresh 58 = .ok (.getfield 9, 3) := by decide +kernel
theorem dX4_refresh_61 : decode cX4_refresh 61 = .ok (.iconst 0, 1) := by decide +kernel
theorem dX4_refresh_62 : decode cX4_refresh 62 = .ok (.iload_n 1, 1) := by decide +kernel
theorem dX4_refresh_63 : decode cX4_refresh 63 = .ok (.invokevirtual 45, 3) := by decide +kernel
theorem dX4_refresh_66 : decode cX4_refresh 66 = .ok (.iastore, 1) := by decide +kernel
theorem dX4_refresh_67 : decode cX4_refresh 67 = .ok (.aload_n 0, 1) := by decide +kernel
theorem dX4_refresh_68 : decode cX4_refresh 68 = .ok (.getfield 19, 3) := by decide +kernel
theorem dX4_refresh_71 : decode cX4_refresh 71 = .ok (.iload_n 1, 1) := by decide +kernel
theorem dX4_refresh_72 : decode cX4_refresh 72 = .ok (.aload_n 0, 1) := by decide +kernel
theorem dX4_refresh_73 : decode cX4_refresh 73 = .ok (.getfield 15, 3) := by decide +kernel
theorem dX4_refresh_76 : decode cX4_refresh 76 = .ok (.iload_n 1, 1) := by decide +kernel
theorem dX4_refresh_77 : decode cX4_refresh 77 = .ok (.iaload, 1) := by decide +kernel
theorem dX4_refresh_78 : decode cX4_refresh 78 = .ok (.aload_n 0, 1) := by decide +kernel
theorem dX4_refresh_79 : decode cX4_refresh 79 = .ok (.getfield 9, 3) := by decide +kernel
theorem dX4_refresh_82 : decode cX4_refresh 82 = .ok (.iconst 4, 1) := by decide +kernel
theorem dX4_refresh_83 : decode cX4_refresh 83 = .ok (.iload_n 1, 1) := by decide +kernel
theorem dX4_refresh_84 : decode cX4_refresh 84 = .ok (.invokevirtual 45, 3) := by decide +kernel
theorem dX4_refresh_87 : decode cX4_refresh 87 = .ok (.ior, 1) := by decide +kernel
theorem dX4_refresh_88 : decode cX4_refresh 88 = .ok (.iastore, 1) := by decide +kernel
theorem dX4_refresh_89 : decode cX4_refresh 89 = .ok (.aload_n 0, 1) := by decide +kernel
theorem dX4_refresh_90 : decode cX4_refresh 90 = .ok (.getfield 22, 3) := by decide +kernel
theorem dX4_refresh_93 : decode cX4_refresh 93 = .ok (.iload_n 1, 1) := by decide +kernel
theorem dX4_refresh_94 : decode cX4_refresh 94 = .ok (.aload_n 0, 1) := by decide +kernel
theorem dX4_refresh_95 : decode cX4_refresh 95 = .ok (.getfield 9, 3) := by decide +kernel
theorem dX4_refresh_98 : decode cX4_refresh 98 = .ok (.iconst 1, 1) := by decide +kernel
theorem dX4_refresh_99 : decode cX4_refresh 99 = .ok (.iload_n 1, 1) := by decide +kernel
theorem dX4_refresh_100 : decode cX4_refresh 100 = .ok (.invokevirtual 45, 3) := by decide +kernel
theorem dX4_refresh_103 : decode cX4_refresh 103 = .ok (.iastore, 1) := by decide +kernel
theorem dX4_refresh_104 : decode cX4_refresh 104 = .ok (.iinc 1 1, 3) := by decide +kernel
theorem dX4_refresh_107 : decode cX4_refresh 107 = .ok (.goto (-63), 3) := by decide +kernel
theorem dX4_refresh_110 : decode cX4_refresh 110 = .ok (.aload_n 0, 1) := by decide +kernel
theorem dX4_refresh_111 : decode cX4_refresh 111 = .ok (.invokevirtual 48, 3) := by decide +kernel
theorem dX4_refresh_114 : decode cX4_refresh 114 = .ok (.return_, 1) := by decide +kernel
theorem dX4_findLeastSiphons_0 : decode cX4_findLeastSiphons 0 = .ok (.aload_n 0, 1) := by decide +kernel
theorem dX4_findLeastSiphons_1 : decode cX4_findLeastSiphons 1 = .ok (.iconst 0, 1) := by decide +kernel
theorem dX4_findLeastSiphons_2 : decode cX4_findLeastSiphons 2 = .ok (.putfield 51, 3) := by decide +kernel
theorem dX4_findLeastSiphons_5 : decode cX4_findLeastSiphons 5 = .ok (.iconst 1, 1) := by decide +kernel
theorem dX4_findLeastSiphons_6 : decode cX4_findLeastSiphons 6 = .ok (.istore_n 1, 1) := by decide +kernel
theorem dX4_findLeastSiphons_7 : decode cX4_findLeastSiphons 7 = .ok (.iload_n 1, 1) := by decide +kernel
theorem dX4_findLeastSiphons_8 : decode cX4_findLeastSiphons 8 = .ok (.iconst 1, 1) := by decide +kernel
theorem dX4_findLeastSiphons_9 : decode cX4_findLeastSiphons 9 = .ok (.aload_n 0, 1) := by decide +kernel
theorem dX4_findLeastSiphons_10 : decode cX4_findLeastSiphons 10 = .ok (.getfield 9, 3) := by decide +kernel
theorem dX4_findLeastSiphons_13 : decode cX4_findLeastSiphons 13 = .ok (.getfield 54, 3) := by decide +kernel
theorem dX4_findLeastSiphons_16 : decode cX4_findLeastSiphons 16 = .ok (.ishl, 1) := by decide +kernel
theorem dX4_findLeastSiphons_17 : decode cX4_findLeastSiphons 17 = .ok (.if_icmp .ge 57, 3) := by decide +kernel
theorem dX4_findLeastSiphons_20 : decode cX4_findLeastSiphons 20 = .ok (.aload_n 0, 1) := by decide +kernel
theorem dX4_findLeastSiphons_21 : decode cX4_findLeastSiphons 21 = .ok (.getfield 51, 3) := by decide +kernel
theorem dX4_findLeastSiphons_24 : decode cX4_findLeastSiphons 24 = .ok (.aload_n 0, 1) := by decide +kernel
theorem dX4_findLeastSiphons_25 : decode cX4_findLeastSiphons 25 = .ok (.getfield 25, 3) := by decide +kernel
theorem dX4_findLeastSiphons_28 : decode cX4_findLeastSiphons 28 = .ok (.arraylength, 1) := by decide +kernel
theorem dX4_findLeastSiphons_29 : decode cX4_findLeastSiphons 29 = .ok (.if_icmp .ge 39, 3) := by decide +kernel
theorem dX4_findLeastSiphons_32 : decode cX4_findLeastSiphons 32 = .ok (.aload_n 0, 1) := by decide +kernel
theorem dX4_findLeastSiphons_33 : decode cX4_findLeastSiphons 33 = .ok (.iload_n 1, 1) := by decide +kernel
theorem dX4_findLeastSiphons_34 : decode cX4_findLeastSiphons 34 = .ok (.invokevirtual 57, 3) := by decide +kernel
theorem dX4_findLeastSiphons_37 : decode cX4_findLeastSiphons 37 = .ok (.ifCond .eq 31, 3) := by decide +kernel
theorem dX4_findLeastSiphons_40 : decode cX4_findLeastSiphons 40 = .ok (.aload_n 0, 1) := by decide +kernel
theorem dX4_findLeastSiphons_41 : decode cX4_findLeastSiphons 41 = .ok (.iload_n 1, 1) := by decide +kernel
theorem dX4_findLeastSiphons_42 : decode cX4_findLeastSiphons 42 = .ok (.invokevirtual 61, 3) := by decide +kernel
theorem dX4_findLeastSiphons_45 : decode cX4_findLeastSiphons 45 = .ok (.ifCond .ne 23, 3) := by decide +kernel
theorem dX4_findLeastSiphons_48 : decode cX4_findLeastSiphons 48 = .ok (.aload_n 0, 1) := by decide +kernel
theorem dX4_findLeastSiphons_49 : decode cX4_findLeastSiphons 49 = .ok (.getfield 25, 3) := by decide +kernel
theorem dX4_findLeastSiphons_52 : decode cX4_findLeastSiphons 52 = .ok (.aload_n 0, 1) := by decide +kernel
theorem dX4_findLeastSiphons_53 : decode cX4_findLeastSiphons 53 = .ok (.getfield 51, 3) := by decide +kernel
theorem dX4_findLeastSiphons_56 : decode cX4_findLeastSiphons 56 = .ok (.iload_n 1, 1) := by decide +kernel
theorem dX4_findLeastSiphons_57 : decode cX4_findLeastSiphons 57 = .ok (.iastore, 1) := by decide +kernel
theorem dX4_findLeastSiphons_58 : decode cX4_findLeastSiphons 58 = .ok (.aload_n 0, 1) := by decide +kernel
theorem dX4_findLeastSiphons_59 : decode cX4_findLeastSiphons 59 = .ok (.dup, 1) := by decide +kernel
theorem dX4_findLeastSiphons_60 : decode cX4_findLeastSiphons 60 = .ok (.getfield 51, 3) := by decide +kernel
theorem dX4_findLeastSiphons_63 : decode cX4_findLeastSiphons 63 = .ok (.iconst 1, 1) := by decide +kernel
theorem dX4_findLeastSiphons_64 : decode cX4_findLeastSiphons 64 = .ok (.iadd, 1) := by decide +kernel
theorem dX4_findLeastSiphons_65 : decode cX4_findLeastSiphons 65 = .ok (.putfield 51, 3) := by decide +kernel
theorem dX4_findLeastSiphons_68 : decode cX4_findLeastSiphons 68 = .ok (.iinc 1 1, 3) := by decide +kernel
theorem dX4_findLeastSiphons_71 : decode cX4_findLeastSiphons 71 = .ok (.goto (-64), 3) := by decide +kernel
theorem dX4_findLeastSiphons_74 : decode cX4_findLeastSiphons 74 = .ok (.return_, 1) := by decide +kernel
theorem dX4_isSiphon_0 : decode cX4_isSiphon 0 = .ok (.iconst 0, 1) := by decide +kernel
theorem dX4_isSiphon_1 : decode cX4_isSiphon 1 = .ok (.istore_n 2, 1) := by decide +kernel
theorem dX4_isSiphon_2 : decode cX4_isSiphon 2 = .ok (.iload_n 2, 1) := by decide +kernel
theorem dX4_isSiphon_3 : decode cX4_isSiphon 3 = .ok (.aload_n 0, 1) := by decide +kernel
theorem dX4_isSiphon_4 : decode cX4_isSiphon 4 = .ok (.getfield 44, 3) := by decide +kernel
theorem dX4_isSiphon_7 : decode cX4_isSiphon 7 = .ok (.if_icmp .ge 33, 3) := by decide +kernel
theorem dX4_isSiphon_10 : decode cX4_isSiphon 10 = .ok (.aload_n 0, 1) := by decide +kernel
theorem dX4_isSiphon_11 : decode cX4_isSiphon 11 = .ok (.getfield 22, 3) := by decide +kernel
theorem dX4_isSiphon_14 : decode cX4_isSiphon 14 = .ok (.iload_n 2, 1) := by decide +kernel
theorem dX4_isSiphon_15 : decode cX4_isSiphon 15 = .ok (.iaload, 1) := by decide +kernel
theorem dX4_isSiphon_16 : decode cX4_isSiphon 16 = .ok (.iload_n 1, 1) := by decide +kernel
theorem dX4_isSiphon_17 : decode cX4_isSiphon 17 = .ok (.iand, 1) := by decide +kernel
theorem dX4_isSiphon_18 : decode cX4_isSiphon 18 = .ok (.ifCond .eq 16, 3) := by decide +kernel
theorem dX4_isSiphon_21 : decode cX4_isSiphon 21 = .ok (.aload_n 0, 1) := by decide +kernel
theorem dX4_isSiphon_22 : decode cX4_isSiphon 22 = .ok (.getfield 15, 3) := by decide +kernel
theorem dX4_isSiphon_25 : decode cX4_isSiphon 25 = .ok (.iload_n 2, 1) := by decide +kernel
theorem dX4_isSiphon_26 : decode cX4_isSiphon 26 = .ok (.iaload, 1) := by decide +kernel
theorem dX4_isSiphon_27 : decode cX4_isSiphon 27 = .ok (.iload_n 1, 1) := by decide +kernel
theorem dX4_isSiphon_28 : decode cX4_isSiphon 28 = .ok (.iand, 1) := by decide +kernel
theorem dX4_isSiphon_29 : decode cX4_isSiphon 29 = .ok (.ifCond .ne 5, 3) := by decide +kernel
theorem dX4_isSiphon_32 : decode cX4_isSiphon 32 = .ok (.iconst 0, 1) := by decide +kernel
theorem dX4_isSiphon_33 : decode cX4_isSiphon 33 = .ok (.ireturn, 1) := by decide +kernel
theorem dX4_isSiphon_34 : decode cX4_isSiphon 34 = .ok (.iinc 2 1, 3) := by decide +kernel
theorem dX4_isSiphon_37 : decode cX4_isSiphon 37 = .ok (.goto (-35), 3) := by decide +kernel
theorem dX4_isSiphon_40 : decode cX4_isSiphon 40 = .ok (.iconst 1, 1) := by decide +kernel
theorem dX4_isSiphon_41 : decode cX4_isSiphon 41 = .ok (.ireturn, 1) := by decide +kernel
theorem dX4_holdsKept_0 : decode cX4_holdsKept 0 = .ok (.iconst 0, 1) := by decide +kernel
theorem dX4_holdsKept_1 : decode cX4_holdsKept 1 = .ok (.istore_n 2, 1) := by decide +kernel
theorem dX4_holdsKept_2 : decode cX4_holdsKept 2 = .ok (.iload_n 2, 1) := by decide +kernel
theorem dX4_holdsKept_3 : decode cX4_holdsKept 3 = .ok (.aload_n 0, 1) := by decide +kernel
theorem dX4_holdsKept_4 : decode cX4_holdsKept 4 = .ok (.getfield 51, 3) := by decide +kernel
theorem dX4_holdsKept_7 : decode cX4_holdsKept 7 = .ok (.if_icmp .ge 28, 3) := by decide +kernel
theorem dX4_holdsKept_10 : decode cX4_holdsKept 10 = .ok (.aload_n 0, 1) := by decide +kernel
theorem dX4_holdsKept_11 : decode cX4_holdsKept 11 = .ok (.getfield 25, 3) := by decide +kernel
theorem dX4_holdsKept_14 : decode cX4_holdsKept 14 = .ok (.iload_n 2, 1) := by decide +kernel
theorem dX4_holdsKept_15 : decode cX4_holdsKept 15 = .ok (.iaload, 1) := by decide +kernel
theorem dX4_holdsKept_16 : decode cX4_holdsKept 16 = .ok (.iload_n 1, 1) := by decide +kernel
theorem dX4_holdsKept_17 : decode cX4_holdsKept 17 = .ok (.iand, 1) := by decide +kernel
theorem dX4_holdsKept_18 : decode cX4_holdsKept 18 = .ok (.aload_n 0, 1) := by decide +kernel
theorem dX4_holdsKept_19 : decode cX4_holdsKept 19 = .ok (.getfield 25, 3) := by decide +kernel
theorem dX4_holdsKept_22 : decode cX4_holdsKept 22 = .ok (.iload_n 2, 1) := by decide +kernel
theorem dX4_holdsKept_23 : decode cX4_holdsKept 23 = .ok (.iaload, 1) := by decide +kernel
theorem dX4_holdsKept_24 : decode cX4_holdsKept 24 = .ok (.if_icmp .ne 5, 3) := by decide +kernel
theorem dX4_holdsKept_27 : decode cX4_holdsKept 27 = .ok (.iconst 1, 1) := by decide +kernel
theorem dX4_holdsKept_28 : decode cX4_holdsKept 28 = .ok (.ireturn, 1) := by decide +kernel
theorem dX4_holdsKept_29 : decode cX4_holdsKept 29 = .ok (.iinc 2 1, 3) := by decide +kernel
theorem dX4_holdsKept_32 : decode cX4_holdsKept 32 = .ok (.goto (-30), 3) := by decide +kernel
theorem dX4_holdsKept_35 : decode cX4_holdsKept 35 = .ok (.iconst 0, 1) := by decide +kernel
theorem dX4_holdsKept_36 : decode cX4_holdsKept 36 = .ok (.ireturn, 1) := by decide +kernel
theorem dX4_leastSiphon_0 : decode cX4_leastSiphon 0 = .ok (.iload_n 1, 1) := by decide +kernel
theorem dX4_leastSiphon_1 : decode cX4_leastSiphon 1 = .ok (.ifCond .lt 20, 3) := by decide +kernel
theorem dX4_leastSiphon_4 : decode cX4_leastSiphon 4 = .ok (.iload_n 1, 1) := by decide +kernel
theorem dX4_leastSiphon_5 : decode cX4_leastSiphon 5 = .ok (.aload_n 0, 1) := by decide +kernel
theorem dX4_leastSiphon_6 : decode cX4_leastSiphon 6 = .ok (.getfield 51, 3) := by decide +kernel
theorem dX4_leastSiphon_9 : decode cX4_leastSiphon 9 = .ok (.if_icmp .ge 12, 3) := by decide +kernel
theorem dX4_leastSiphon_12 : decode cX4_leastSiphon 12 = .ok (.aload_n 0, 1) := by decide +kernel
theorem dX4_leastSiphon_13 : decode cX4_leastSiphon 13 = .ok (.getfield 25, 3) := by decide +kernel
theorem dX4_leastSiphon_16 : decode cX4_leastSiphon 16 = .ok (.iload_n 1, 1) := by decide +kernel
theorem dX4_leastSiphon_17 : decode cX4_leastSiphon 17 = .ok (.iaload, 1) := by decide +kernel
theorem dX4_leastSiphon_18 : decode cX4_leastSiphon 18 = .ok (.goto 4, 3) := by decide +kernel
theorem dX4_leastSiphon_21 : decode cX4_leastSiphon 21 = .ok (.iconst 0, 1) := by decide +kernel
theorem dX4_leastSiphon_22 : decode cX4_leastSiphon 22 = .ok (.ireturn, 1) := by decide +kernel
theorem dX4_greatestTrap_0 : decode cX4_greatestTrap 0 = .ok (.iload_n 1, 1) := by decide +kernel
theorem dX4_greatestTrap_1 : decode cX4_greatestTrap 1 = .ok (.istore_n 2, 1) := by decide +kernel
theorem dX4_greatestTrap_2 : decode cX4_greatestTrap 2 = .ok (.iconst 0, 1) := by decide +kernel
theorem dX4_greatestTrap_3 : decode cX4_greatestTrap 3 = .ok (.istore_n 3, 1) := by decide +kernel
theorem dX4_greatestTrap_4 : decode cX4_greatestTrap 4 = .ok (.iload_n 3, 1) := by decide +kernel
theorem dX4_greatestTrap_5 : decode cX4_greatestTrap 5 = .ok (.aload_n 0, 1) := by decide +kernel
theorem dX4_greatestTrap_6 : decode cX4_greatestTrap 6 = .ok (.getfield 9, 3) := by decide +kernel
theorem dX4_greatestTrap_9 : decode cX4_greatestTrap 9 = .ok (.getfield 54, 3) := by decide +kernel
theorem dX4_greatestTrap_12 : decode cX4_greatestTrap 12 = .ok (.if_icmp .ge 51, 3) := by decide +kernel
theorem dX4_greatestTrap_15 : decode cX4_greatestTrap 15 = .ok (.iconst 0, 1) := by decide +kernel
theorem dX4_greatestTrap_16 : decode cX4_greatestTrap 16 = .ok (.istore 4, 2) := by decide +kernel
theorem dX4_greatestTrap_18 : decode cX4_greatestTrap 18 = .ok (.iload 4, 2) := by decide +kernel
theorem dX4_greatestTrap_20 : decode cX4_greatestTrap 20 = .ok (.aload_n 0, 1) := by decide +kernel
theorem dX4_greatestTrap_21 : decode cX4_greatestTrap 21 = .ok (.getfield 44, 3) := by decide +kernel
theorem dX4_greatestTrap_24 : decode cX4_greatestTrap 24 = .ok (.if_icmp .ge 33, 3) := by decide +kernel
theorem dX4_greatestTrap_27 : decode cX4_greatestTrap 27 = .ok (.aload_n 0, 1) := by decide +kernel
theorem dX4_greatestTrap_28 : decode cX4_greatestTrap 28 = .ok (.getfield 22, 3) := by decide +kernel
theorem dX4_greatestTrap_31 : decode cX4_greatestTrap 31 = .ok (.iload 4, 2) := by decide +kernel
theorem dX4_greatestTrap_33 : decode cX4_greatestTrap 33 = .ok (.iaload, 1) := by decide +kernel
theorem dX4_greatestTrap_34 : decode cX4_greatestTrap 34 = .ok (.iload_n 2, 1) := by decide +kernel
theorem dX4_greatestTrap_35 : decode cX4_greatestTrap 35 = .ok (.iand, 1) := by decide +kernel
theorem dX4_greatestTrap_36 : decode cX4_greatestTrap 36 = .ok (.ifCond .ne 15, 3) := by decide +kernel
theorem dX4_greatestTrap_39 : decode cX4_greatestTrap 39 = .ok (.iload_n 2, 1) := by decide +kernel
theorem dX4_greatestTrap_40 : decode cX4_greatestTrap 40 = .ok (.aload_n 0, 1) := by decide +kernel
theorem dX4_greatestTrap_41 : decode cX4_greatestTrap 41 = .ok (.getfield 19, 3) := by decide +kernel
theorem dX4_greatestTrap_44 : decode cX4_greatestTrap 44 = .ok (.iload 4, 2) := by decide +kernel
theorem dX4_greatestTrap_46 : decode cX4_greatestTrap 46 = .ok (.iaload, 1) := by decide +kernel
theorem dX4_greatestTrap_47 : decode cX4_greatestTrap 47 = .ok (.iconst (-1), 1) := by decide +kernel
theorem dX4_greatestTrap_48 : decode cX4_greatestTrap 48 = .ok (.ixor, 1) := by decide +kernel
theorem dX4_greatestTrap_49 : decode cX4_greatestTrap 49 = .ok (.iand, 1) := by decide +kernel
theorem dX4_greatestTrap_50 : decode cX4_greatestTrap 50 = .ok (.istore_n 2, 1) := by decide +kernel
theorem dX4_greatestTrap_51 : decode cX4_greatestTrap 51 = .ok (.iinc 4 1, 3) := by decide +kernel
theorem dX4_greatestTrap_54 : decode cX4_greatestTrap 54 = .ok (.goto (-36), 3) := by decide +kernel
theorem dX4_greatestTrap_57 : decode cX4_greatestTrap 57 = .ok (.iinc 3 1, 3) := by decide +kernel
theorem dX4_greatestTrap_60 : decode cX4_greatestTrap 60 = .ok (.goto (-56), 3) := by decide +kernel
theorem dX4_greatestTrap_63 : decode cX4_greatestTrap 63 = .ok (.iload_n 2, 1) := by decide +kernel
theorem dX4_greatestTrap_64 : decode cX4_greatestTrap 64 = .ok (.ireturn, 1) := by decide +kernel
theorem dX5_init_0 : decode cX5_init 0 = .ok (.aload_n 0, 1) := by decide +kernel
theorem dX5_init_1 : decode cX5_init 1 = .ok (.invokespecial 1, 3) := by decide +kernel
theorem dX5_init_4 : decode cX5_init 4 = .ok (.aload_n 0, 1) := by decide +kernel
theorem dX5_init_5 : decode cX5_init 5 = .ok (.new 7, 3) := by decide +kernel
theorem dX5_init_8 : decode cX5_init 8 = .ok (.dup, 1) := by decide +kernel
theorem dX5_init_9 : decode cX5_init 9 = .ok (.invokespecial 9, 3) := by decide +kernel
theorem dX5_init_12 : decode cX5_init 12 = .ok (.putfield 10, 3) := by decide +kernel
theorem dX5_init_15 : decode cX5_init 15 = .ok (.aload_n 0, 1) := by decide +kernel
theorem dX5_init_16 : decode cX5_init 16 = .ok (.new 16, 3) := by decide +kernel
theorem dX5_init_19 : decode cX5_init 19 = .ok (.dup, 1) := by decide +kernel
theorem dX5_init_20 : decode cX5_init 20 = .ok (.aload_n 0, 1) := by decide +kernel
theorem dX5_init_21 : decode cX5_init 21 = .ok (.getfield 10, 3) := by decide +kernel
theorem dX5_init_24 : decode cX5_init 24 = .ok (.invokespecial 18, 3) := by decide +kernel
theorem dX5_init_27 : decode cX5_init 27 = .ok (.putfield 21, 3) := by decide +kernel
theorem dX5_init_30 : decode cX5_init 30 = .ok (.aload_n 0, 1) := by decide +kernel
theorem dX5_init_31 : decode cX5_init 31 = .ok (.new 25, 3) := by decide +kernel
theorem dX5_init_34 : decode cX5_init 34 = .ok (.dup, 1) := by decide +kernel
theorem dX5_init_35 : decode cX5_init 35 = .ok (.iconst 3, 1) := by decide +kernel
theorem dX5_init_36 : decode cX5_init 36 = .ok (.sipush 580, 3) := by decide +kernel
theorem dX5_init_39 : decode cX5_init 39 = .ok (.invokespecial 27, 3) := by decide +kernel
theorem dX5_init_42 : decode cX5_init 42 = .ok (.putfield 30, 3) := by decide +kernel
theorem dX5_init_45 : decode cX5_init 45 = .ok (.aload_n 0, 1) := by decide +kernel
theorem dX5_init_46 : decode cX5_init 46 = .ok (.new 25, 3) := by decide +kernel
theorem dX5_init_49 : decode cX5_init 49 = .ok (.dup, 1) := by decide +kernel
theorem dX5_init_50 : decode cX5_init 50 = .ok (.iconst 2, 1) := by decide +kernel
theorem dX5_init_51 : decode cX5_init 51 = .ok (.sipush 1107, 3) := by decide +kernel
theorem dX5_init_54 : decode cX5_init 54 = .ok (.invokespecial 27, 3) := by decide +kernel
theorem dX5_init_57 : decode cX5_init 57 = .ok (.putfield 34, 3) := by decide +kernel
theorem dX5_init_60 : decode cX5_init 60 = .ok (.aload_n 0, 1) := by decide +kernel
theorem dX5_init_61 : decode cX5_init 61 = .ok (.new 37, 3) := by decide +kernel
theorem dX5_init_64 : decode cX5_init 64 = .ok (.dup, 1) := by decide +kernel
theorem dX5_init_65 : decode cX5_init 65 = .ok (.aload_n 0, 1) := by decide +kernel
theorem dX5_init_66 : decode cX5_init 66 = .ok (.getfield 10, 3) := by decide +kernel
theorem dX5_init_69 : decode cX5_init 69 = .ok (.invokespecial 39, 3) := by decide +kernel
theorem dX5_init_72 : decode cX5_init 72 = .ok (.putfield 40, 3) := by decide +kernel
theorem dX5_init_75 : decode cX5_init 75 = .ok (.aload_n 0, 1) := by decide +kernel
theorem dX5_init_76 : decode cX5_init 76 = .ok (.new 44, 3) := by decide +kernel
theorem dX5_init_79 : decode cX5_init 79 = .ok (.dup, 1) := by decide +kernel
theorem dX5_init_80 : decode cX5_init 80 = .ok (.aload_n 0, 1) := by decide +kernel
theorem dX5_init_81 : decode cX5_init 81 = .ok (.getfield 10, 3) := by decide +kernel
theorem dX5_init_84 : decode cX5_init 84 = .ok (.aload_n 0, 1) := by decide +kernel
theorem dX5_init_85 : decode cX5_init 85 = .ok (.getfield 21, 3) := by decide +kernel
theorem dX5_init_88 : decode cX5_init 88 = .ok (.invokespecial 46, 3) := by decide +kernel
theorem dX5_init_91 : decode cX5_init 91 = .ok (.putfield 49, 3) := by decide +kernel
theorem dX5_init_94 : decode cX5_init 94 = .ok (.return_, 1) := by decide +kernel
theorem dX5_place_0 : decode cX5_place 0 = .ok (.iload_n 1, 1) := by decide +kernel
theorem dX5_place_1 : decode cX5_place 1 = .ok (.invokestatic 53, 3) := by decide +kernel
theorem dX5_place_4 : decode cX5_place 4 = .ok (.aload_n 0, 1) := by decide +kernel
theorem dX5_place_5 : decode cX5_place 5 = .ok (.getfield 10, 3) := by decide +kernel
theorem dX5_place_8 : decode cX5_place 8 = .ok (.getfield 57, 3) := by decide +kernel
theorem dX5_place_11 : decode cX5_place 11 = .ok (.bipush 6, 2) := by decide +kernel
theorem dX5_place_13 : decode cX5_place 13 = .ok (.if_icmp .lt 13, 3) := by decide +kernel
theorem dX5_place_16 : decode cX5_place 16 = .ok (.new 61, 3) := by decide +kernel
theorem dX5_place_19 : decode cX5_place 19 = .ok (.dup, 1) := by decide +kernel
theorem dX5_place_20 : decode cX5_place 20 = .ok (.ldc 63, 2) := by decide +kernel
theorem dX5_place_22 : decode cX5_place 22 = .ok (.invokespecial 65, 3) := by decide +kernel
theorem dX5_place_25 : decode cX5_place 25 = .ok (.athrow, 1) := by decide +kernel
theorem dX5_place_26 : decode cX5_place 26 = .ok (.aload_n 0, 1) := by decide +kernel
theorem dX5_place_27 : decode cX5_place 27 = .ok (.getfield 10, 3) := by decide +kernel
theorem dX5_place_30 : decode cX5_place 30 = .ok (.iload_n 1, 1) := by decide +kernel
theorem dX5_place_31 : decode cX5_place 31 = .ok (.invokevirtual 68, 3) := by decide +kernel
theorem dX5_place_34 : decode cX5_place 34 = .ok (.ireturn, 1) := by decide +kernel
theorem dX5_firing_0 : decode cX5_firing 0 = .ok (.aload_n 0, 1) := by decide +kernel
theorem dX5_firing_1 : decode cX5_firing 1 = .ok (.getfield 10, 3) := by decide +kernel
theorem dX5_firing_4 : decode cX5_firing 4 = .ok (.getfield 72, 3) := by decide +kernel
theorem dX5_firing_7 : decode cX5_firing 7 = .ok (.bipush 8, 2) := by decide +kernel
theorem dX5_firing_9 : decode cX5_firing 9 = .ok (.if_icmp .lt 13, 3) := by decide +kernel
theorem dX5_firing_12 : decode cX5_firing 12 = .ok (.new 61, 3) := by decide +kernel
theorem dX5_firing_15 : decode cX5_firing 15 = .ok (.dup, 1) := by decide +kernel
theorem dX5_firing_16 : decode cX5_firing 16 = .ok (.ldc 75, 2) := by decide +kernel
theorem dX5_firing_18 : decode cX5_firing 18 = .ok (.invokespecial 65, 3) := by decide +kernel
theorem dX5_firing_21 : decode cX5_firing 21 = .ok (.athrow, 1) := by decide +kernel
theorem dX5_firing_22 : decode cX5_firing 22 = .ok (.aload_n 0, 1) := by decide +kernel
theorem dX5_firing_23 : decode cX5_firing 23 = .ok (.getfield 10, 3) := by decide +kernel
theorem dX5_firing_26 : decode cX5_firing 26 = .ok (.invokevirtual 77, 3) := by decide +kernel
theorem dX5_firing_29 : decode cX5_firing 29 = .ok (.ireturn, 1) := by decide +kernel
theorem dX5_arc_0 : decode cX5_arc 0 = .ok (.aload_n 0, 1) := by decide +kernel
theorem dX5_arc_1 : decode cX5_arc 1 = .ok (.iload_n 1, 1) := by decide +kernel
theorem dX5_arc_2 : decode cX5_arc 2 = .ok (.invokevirtual 81, 3) := by decide +kernel
theorem dX5_arc_5 : decode cX5_arc 5 = .ok (.aload_n 0, 1) := by decide +kernel
theorem dX5_arc_6 : decode cX5_arc 6 = .ok (.iload_n 2, 1) := by decide +kernel
theorem dX5_arc_7 : decode cX5_arc 7 = .ok (.invokevirtual 84, 3) := by decide +kernel
theorem dX5_arc_10 : decode cX5_arc 10 = .ok (.iload_n 3, 1) := by decide +kernel
theorem dX5_arc_11 : decode cX5_arc 11 = .ok (.ifCond .lt 8, 3) := by decide +kernel
theorem dX5_arc_14 : decode cX5_arc 14 = .ok (.iload_n 3, 1) := by decide +kernel
theorem dX5_arc_15 : decode cX5_arc 15 = .ok (.iconst 4, 1) := by decide +kernel
theorem dX5_arc_16 : decode cX5_arc 16 = .ok (.if_icmp .le 13, 3) := by decide +kernel
theorem dX5_arc_19 : decode cX5_arc 19 = .ok (.new 87, 3) := by decide +kernel
theorem dX5_arc_22 : decode cX5_arc 22 = .ok (.dup, 1) := by decide +kernel
theorem dX5_arc_23 : decode cX5_arc 23 = .ok (.ldc 89, 2) := by decide +kernel
theorem dX5_arc_25 : decode cX5_arc 25 = .ok (.invokespecial 91, 3) := by decide +kernel
theorem dX5_arc_28 : decode cX5_arc 28 = .ok (.athrow, 1) := by decide +kernel
theorem dX5_arc_29 : decode cX5_arc 29 = .ok (.iload 4, 2) := by decide +kernel
theorem dX5_arc_31 : decode cX5_arc 31 = .ok (.ifCond .lt 18, 3) := by decide +kernel
theorem dX5_arc_34 : decode cX5_arc 34 = .ok (.iload 4, 2) := by decide +kernel
theorem dX5_arc_36 : decode cX5_arc 36 = .ok (.iload_n 3, 1) := by decide +kernel
theorem dX5_arc_37 : decode cX5_arc 37 = .ok (.iconst 4, 1) := by decide +kernel
theorem dX5_arc_38 : decode cX5_arc 38 = .ok (.if_icmp .ne 7, 3) := by decide +kernel
theorem dX5_arc_41 : decode cX5_arc 41 = .ok (.iconst 1, 1) := by decide +kernel
theorem dX5_arc_42 : decode cX5_arc 42 = .ok (.goto 4, 3) := by decide +kernel
theorem dX5_arc_45 : decode cX5_arc 45 = .ok (.iconst 3, 1) := by decide +kernel
theorem dX5_arc_46 : decode cX5_arc 46 = .ok (.if_icmp .le 13, 3) := by decide +kernel
theorem dX5_arc_49 : decode cX5_arc 49 = .ok (.new 87, 3) := by decide +kernel
theorem dX5_arc_52 : decode cX5_arc 52 = .ok (.dup, 1) := by decide +kernel
theorem dX5_arc_53 : decode cX5_arc 53 = .ok (.ldc 92, 2) := by decide +kernel
theorem dX5_arc_55 : decode cX5_arc 55 = .ok (.invokespecial 91, 3) := by decide +kernel
theorem dX5_arc_58 : decode cX5_arc 58 = .ok (.athrow, 1) := by decide +kernel
theorem dX5_arc_59 : decode cX5_arc 59 = .ok (.aload_n 0, 1) := by decide +kernel
theorem dX5_arc_60 : decode cX5_arc 60 = .ok (.getfield 10, 3) := by decide +kernel
theorem dX5_arc_63 : decode cX5_arc 63 = .ok (.iload_n 3, 1) := by decide +kernel
theorem dX5_arc_64 : decode cX5_arc 64 = .ok (.iload_n 1, 1) := by decide +kernel
theorem dX5_arc_65 : decode cX5_arc 65 = .ok (.iload_n 2, 1) := by decide +kernel
theorem dX5_arc_66 : decode cX5_arc 66 = .ok (.iload 4, 2) := by decide +kernel
theorem dX5_arc_68 : decode cX5_arc 68 = .ok (.invokevirtual 94, 3) := by decide +kernel
theorem dX5_arc_71 : decode cX5_arc 71 = .ok (.ireturn, 1) := by decide +kernel
theorem dX5_tokens_0 : decode cX5_tokens 0 = .ok (.aload_n 0, 1) := by decide +kernel
theorem dX5_tokens_1 : decode cX5_tokens 1 = .ok (.iload_n 1, 1) := by decide +kernel
theorem dX5_tokens_2 : decode cX5_tokens 2 = .ok (.invokevirtual 84, 3) := by decide +kernel
theorem dX5_tokens_5 : decode cX5_tokens 5 = .ok (.aload_n 0, 1) := by decide +kernel
theorem dX5_tokens_6 : decode cX5_tokens 6 = .ok (.getfield 10, 3) := by decide +kernel
theorem dX5_tokens_9 : decode cX5_tokens 9 = .ok (.getfield 98, 3) := by decide +kernel
theorem dX5_tokens_12 : decode cX5_tokens 12 = .ok (.iload_n 1, 1) := by decide +kernel
theorem dX5_tokens_13 : decode cX5_tokens 13 = .ok (.invokestatic 102, 3) := by decide +kernel
theorem dX5_tokens_16 : decode cX5_tokens 16 = .ok (.ireturn, 1) := by decide +kernel
theorem dX5_can_0 : decode cX5_can 0 = .ok (.aload_n 0, 1) := by decide +kernel
theorem dX5_can_1 : decode cX5_can 1 = .ok (.iload_n 1, 1) := by decide +kernel
theorem dX5_can_2 : decode cX5_can 2 = .ok (.invokevirtual 81, 3) := by decide +kernel
theorem dX5_can_5 : decode cX5_can 5 = .ok (.aload_n 0, 1) := by decide +kernel
theorem dX5_can_6 : decode cX5_can 6 = .ok (.getfield 10, 3) := by decide +kernel
theorem dX5_can_9 : decode cX5_can 9 = .ok (.aload_n 0, 1) := by decide +kernel
theorem dX5_can_10 : decode cX5_can 10 = .ok (.getfield 10, 3) := by decide +kernel
theorem dX5_can_13 : decode cX5_can 13 = .ok (.getfield 98, 3) := by decide +kernel
theorem dX5_can_16 : decode cX5_can 16 = .ok (.iload_n 1, 1) := by decide +kernel
theorem dX5_can_17 : decode cX5_can 17 = .ok (.invokevirtual 106, 3) := by decide +kernel
theorem dX5_can_20 : decode cX5_can 20 = .ok (.ireturn, 1) := by decide +kernel
theorem dX5_fire_0 : decode cX5_fire 0 = .ok (.aload_n 0, 1) := by decide +kernel
theorem dX5_fire_1 : decode cX5_fire 1 = .ok (.iload_n 1, 1) := by decide +kernel
theorem dX5_fire_2 : decode cX5_fire 2 = .ok (.invokevirtual 81, 3) := by decide +kernel
theorem dX5_fire_5 : decode cX5_fire 5 = .ok (.aload_n 0, 1) := by decide +kernel
theorem dX5_fire_6 : decode cX5_fire 6 = .ok (.getfield 10, 3) := by decide +kernel
theorem dX5_fire_9 : decode cX5_fire 9 = .ok (.aload_n 0, 1) := by decide +kernel
theorem dX5_fire_10 : decode cX5_fire 10 = .ok (.getfield 10, 3) := by decide +kernel
theorem dX5_fire_13 : decode cX5_fire 13 = .ok (.getfield 98, 3) := by decide +kernel
theorem dX5_fire_16 : decode cX5_fire 16 = .ok (.iload_n 1, 1) := by decide +kernel
theorem dX5_fire_17 : decode cX5_fire 17 = .ok (.invokevirtual 106, 3) := by decide +kernel
theorem dX5_fire_20 : decode cX5_fire 20 = .ok (.ifCond .ne 13, 3) := by decide +kernel
theorem dX5_fire_23 : decode cX5_fire 23 = .ok (.new 61, 3) := by decide +kernel
theorem dX5_fire_26 : decode cX5_fire 26 = .ok (.dup, 1) := by decide +kernel
theorem dX5_fire_27 : decode cX5_fire 27 = .ok (.ldc 110, 2) := by decide +kernel
theorem dX5_fire_29 : decode cX5_fire 29 = .ok (.invokespecial 65, 3) := by decide +kernel
theorem dX5_fire_32 : decode cX5_fire 32 = .ok (.athrow, 1) := by decide +kernel
theorem dX5_fire_33 : decode cX5_fire 33 = .ok (.aload_n 0, 1) := by decide +kernel
theorem dX5_fire_34 : decode cX5_fire 34 = .ok (.getfield 10, 3) := by decide +kernel
theorem dX5_fire_37 : decode cX5_fire 37 = .ok (.iload_n 1, 1) := by decide +kernel
theorem dX5_fire_38 : decode cX5_fire 38 = .ok (.invokevirtual 112, 3) := by decide +kernel
theorem dX5_fire_41 : decode cX5_fire 41 = .ok (.ireturn, 1) := by decide +kernel
theorem dX5_graph_0 : decode cX5_graph 0 = .ok (.iload_n 1, 1) := by decide +kernel
theorem dX5_graph_1 : decode cX5_graph 1 = .ok (.ifCond .lt 8, 3) := by decide +kernel
theorem dX5_graph_4 : decode cX5_graph 4 = .ok (.iload_n 1, 1) := by decide +kernel
theorem dX5_graph_5 : decode cX5_graph 5 = .ok (.iconst 3, 1) := by decide +kernel
theorem dX5_graph_6 : decode cX5_graph 6 = .ok (.if_icmp .le 13, 3) := by decide +kernel
theorem dX5_graph_9 : decode cX5_graph 9 = .ok (.new 87, 3) := by decide +kernel
theorem dX5_graph_12 : decode cX5_graph 12 = .ok (.dup, 1) := by decide +kernel
theorem dX5_graph_13 : decode cX5_graph 13 = .ok (.ldc 115, 2) := by decide +kernel
theorem dX5_graph_15 : decode cX5_graph 15 = .ok (.invokespecial 91, 3) := by decide +kernel
theorem dX5_graph_18 : decode cX5_graph 18 = .ok (.athrow, 1) := by decide +kernel
theorem dX5_graph_19 : decode cX5_graph 19 = .ok (.aload_n 0, 1) := by decide +kernel
theorem dX5_graph_20 : decode cX5_graph 20 = .ok (.getfield 21, 3) := by decide +kernel
theorem dX5_graph_23 : decode cX5_graph 23 = .ok (.invokevirtual 117, 3) := by decide +kernel
theorem dX5_graph_26 : decode cX5_graph 26 = .ok (.aload_n 0, 1) := by decide +kernel
theorem dX5_graph_27 : decode cX5_graph 27 = .ok (.getfield 21, 3) := by decide +kernel
theorem dX5_graph_30 : decode cX5_graph 30 = .ok (.getfield 120, 3) := by decide +kernel
theorem dX5_graph_33 : decode cX5_graph 33 = .ok (.ifCond .eq 5, 3) := by decide +kernel
theorem dX5_graph_36 : decode cX5_graph 36 = .ok (.iconst (-1), 1) := by decide +kernel
theorem dX5_graph_37 : decode cX5_graph 37 = .ok (.ireturn, 1) := by decide +kernel
theorem dX5_graph_38 : decode cX5_graph 38 = .ok (.iload_n 1, 1) := by decide +kernel
theorem dX5_graph_39 : decode cX5_graph 39 = .ok (.tableswitch 49 0 2 #[25, 33, 41], 25) := by decide +kernel
theorem dX5_graph_64 : decode cX5_graph 64 = .ok (.aload_n 0, 1) := by decide +kernel
theorem dX5_graph_65 : decode cX5_graph 65 = .ok (.getfield 21, 3) := by decide +kernel
theorem dX5_graph_68 : decode cX5_graph 68 = .ok (.getfield 124, 3) := by decide +kernel
theorem dX5_graph_71 : decode cX5_graph 71 = .ok (.ireturn, 1) := by decide +kernel
theorem dX5_graph_72 : decode cX5_graph 72 = .ok (.aload_n 0, 1) := by decide +kernel
theorem dX5_graph_73 : decode cX5_graph 73 = .ok (.getfield 21, 3) := by decide +kernel
theorem dX5_graph_76 : decode cX5_graph 76 = .ok (.getfield 127, 3) := by decide +kernel
theorem dX5_graph_79 : decode cX5_graph 79 = .ok (.ireturn, 1) := by decide +kernel
theorem dX5_graph_80 : decode cX5_graph 80 = .ok (.aload_n 0, 1) := by decide +kernel
theorem dX5_graph_81 : decode cX5_graph 81 = .ok (.getfield 21, 3) := by decide +kernel
theorem dX5_graph_84 : decode cX5_graph 84 = .ok (.getfield 130, 3) := by decide +kernel
theorem dX5_graph_87 : decode cX5_graph 87 = .ok (.ireturn, 1) := by decide +kernel
theorem dX5_graph_88 : decode cX5_graph 88 = .ok (.aload_n 0, 1) := by decide +kernel
theorem dX5_graph_89 : decode cX5_graph 89 = .ok (.getfield 21, 3) := by decide +kernel
theorem dX5_graph_92 : decode cX5_graph 92 = .ok (.invokevirtual 133, 3) := by decide +kernel
theorem dX5_graph_95 : decode cX5_graph 95 = .ok (.ifCond .eq 7, 3) := by decide +kernel
theorem dX5_graph_98 : decode cX5_graph 98 = .ok (.iconst 1, 1) := by decide +kernel
theorem dX5_graph_99 : decode cX5_graph 99 = .ok (.goto 4, 3) := by decide +kernel
theorem dX5_graph_102 : decode cX5_graph 102 = .ok (.iconst 0, 1) := by decide +kernel
theorem dX5_graph_103 : decode cX5_graph 103 = .ok (.ireturn, 1) := by decide +kernel
theorem dX5_marking_0 : decode cX5_marking 0 = .ok (.aload_n 0, 1) := by decide +kernel
theorem dX5_marking_1 : decode cX5_marking 1 = .ok (.iload_n 2, 1) := by decide +kernel
theorem dX5_marking_2 : decode cX5_marking 2 = .ok (.invokevirtual 84, 3) := by decide +kernel
theorem dX5_marking_5 : decode cX5_marking 5 = .ok (.iload_n 1, 1) := by decide +kernel
theorem dX5_marking_6 : decode cX5_marking 6 = .ok (.ifCond .ge 13, 3) := by decide +kernel
theorem dX5_marking_9 : decode cX5_marking 9 = .ok (.new 87, 3) := by decide +kernel
theorem dX5_marking_12 : decode cX5_marking 12 = .ok (.dup, 1) := by decide +kernel
theorem dX5_marking_13 : decode cX5_marking 13 = .ok (.ldc 137, 2) := by decide +kernel
theorem dX5_marking_15 : decode cX5_marking 15 = .ok (.invokespecial 91, 3) := by decide +kernel
theorem dX5_marking_18 : decode cX5_marking 18 = .ok (.athrow, 1) := by decide +kernel
theorem dX5_marking_19 : decode cX5_marking 19 = .ok (.aload_n 0, 1) := by decide +kernel
theorem dX5_marking_20 : decode cX5_marking 20 = .ok (.getfield 21, 3) := by decide +kernel
theorem dX5_marking_23 : decode cX5_marking 23 = .ok (.invokevirtual 117, 3) := by decide +kernel
theorem dX5_marking_26 : decode cX5_marking 26 = .ok (.aload_n 0, 1) := by decide +kernel
theorem dX5_marking_27 : decode cX5_marking 27 = .ok (.getfield 21, 3) := by decide +kernel
theorem dX5_marking_30 : decode cX5_marking 30 = .ok (.getfield 120, 3) := by decide +kernel
theorem dX5_marking_33 : decode cX5_marking 33 = .ok (.ifCond .ne 14, 3) := by decide +kernel
theorem dX5_marking_36 : decode cX5_marking 36 = .ok (.iload_n 1, 1) := by decide +kernel
theorem dX5_marking_37 : decode cX5_marking 37 = .ok (.aload_n 0, 1) := by decide +kernel
theorem dX5_marking_38 : decode cX5_marking 38 = .ok (.getfield 21, 3) := by decide +kernel
