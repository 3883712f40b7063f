theorem dX6_round_10 : decode cX6_round 10 = .ok (.invokestatic 51, 3) := by decide +kernel
theorem dX6_round_13 : decode cX6_round 13 = .ok (.ifCond .eq 15, 3) := by decide +kernel
theorem dX6_round_16 : decode cX6_round 16 = .ok (.aload_n 0, 1) := by decide +kernel
theorem dX6_round_17 : decode cX6_round 17 = .ok (.iload_n 2, 1) := by decide +kernel
theorem dX6_round_18 : decode cX6_round 18 = .ok (.invokevirtual 62, 3) := by decide +kernel
theorem dX6_round_21 : decode cX6_round 21 = .ok (.ifCond .eq 7, 3) := by decide +kernel
theorem dX6_round_24 : decode cX6_round 24 = .ok (.iconst 0, 1) := by decide +kernel
theorem dX6_round_25 : decode cX6_round 25 = .ok (.goto 4, 3) := by decide +kernel
theorem dX6_round_28 : decode cX6_round 28 = .ok (.iconst 1, 1) := by decide +kernel
theorem dX6_round_29 : decode cX6_round 29 = .ok (.invokevirtual 58, 3) := by decide +kernel
theorem dX6_round_32 : decode cX6_round 32 = .ok (.ifCond .eq 21, 3) := by decide +kernel
theorem dX6_round_35 : decode cX6_round 35 = .ok (.aload_n 0, 1) := by decide +kernel
theorem dX6_round_36 : decode cX6_round 36 = .ok (.getfield 41, 3) := by decide +kernel
theorem dX6_round_39 : decode cX6_round 39 = .ok (.iload_n 1, 1) := by decide +kernel
theorem dX6_round_40 : decode cX6_round 40 = .ok (.iaload, 1) := by decide +kernel
theorem dX6_round_41 : decode cX6_round 41 = .ok (.iconst 3, 1) := by decide +kernel
theorem dX6_round_42 : decode cX6_round 42 = .ok (.aload_n 0, 1) := by decide +kernel
theorem dX6_round_43 : decode cX6_round 43 = .ok (.getfield 55, 3) := by decide +kernel
theorem dX6_round_46 : decode cX6_round 46 = .ok (.iload_n 2, 1) := by decide +kernel
theorem dX6_round_47 : decode cX6_round 47 = .ok (.invokestatic 116, 3) := by decide +kernel
theorem dX6_round_50 : decode cX6_round 50 = .ok (.goto 4, 3) := by decide +kernel
theorem dX6_round_53 : decode cX6_round 53 = .ok (.iconst 0, 1) := by decide +kernel
theorem dX6_round_54 : decode cX6_round 54 = .ok (.ireturn, 1) := by decide +kernel
theorem dX6_keeps_0 : decode cX6_keeps 0 = .ok (.aload_n 0, 1) := by decide +kernel
theorem dX6_keeps_1 : decode cX6_keeps 1 = .ok (.iconst 0, 1) := by decide +kernel
theorem dX6_keeps_2 : decode cX6_keeps 2 = .ok (.putfield 44, 3) := by decide +kernel
theorem dX6_keeps_5 : decode cX6_keeps 5 = .ok (.aload_n 0, 1) := by decide +kernel
theorem dX6_keeps_6 : decode cX6_keeps 6 = .ok (.iconst 1, 1) := by decide +kernel
theorem dX6_keeps_7 : decode cX6_keeps 7 = .ok (.invokevirtual 132, 3) := by decide +kernel
theorem dX6_keeps_10 : decode cX6_keeps 10 = .ok (.istore_n 1, 1) := by decide +kernel
theorem dX6_keeps_11 : decode cX6_keeps 11 = .ok (.aload_n 0, 1) := by decide +kernel
theorem dX6_keeps_12 : decode cX6_keeps 12 = .ok (.invokevirtual 91, 3) := by decide +kernel
theorem dX6_keeps_15 : decode cX6_keeps 15 = .ok (.istore_n 2, 1) := by decide +kernel
theorem dX6_keeps_16 : decode cX6_keeps 16 = .ok (.iconst 1, 1) := by decide +kernel
theorem dX6_keeps_17 : decode cX6_keeps 17 = .ok (.istore_n 3, 1) := by decide +kernel
theorem dX6_keeps_18 : decode cX6_keeps 18 = .ok (.iconst 1, 1) := by decide +kernel
theorem dX6_keeps_19 : decode cX6_keeps 19 = .ok (.istore 4, 2) := by decide +kernel
theorem dX6_keeps_21 : decode cX6_keeps 21 = .ok (.iload 4, 2) := by decide +kernel
theorem dX6_keeps_23 : decode cX6_keeps 23 = .ok (.iload_n 2, 1) := by decide +kernel
theorem dX6_keeps_24 : decode cX6_keeps 24 = .ok (.if_icmp .ge 62, 3) := by decide +kernel
theorem dX6_keeps_27 : decode cX6_keeps 27 = .ok (.iconst 0, 1) := by decide +kernel
theorem dX6_keeps_28 : decode cX6_keeps 28 = .ok (.istore 5, 2) := by decide +kernel
theorem dX6_keeps_30 : decode cX6_keeps 30 = .ok (.iload 5, 2) := by decide +kernel
theorem dX6_keeps_32 : decode cX6_keeps 32 = .ok (.iload_n 1, 1) := by decide +kernel
theorem dX6_keeps_33 : decode cX6_keeps 33 = .ok (.if_icmp .ge 47, 3) := by decide +kernel
theorem dX6_keeps_36 : decode cX6_keeps 36 = .ok (.iload_n 3, 1) := by decide +kernel
theorem dX6_keeps_37 : decode cX6_keeps 37 = .ok (.ifCond .eq 35, 3) := by decide +kernel
theorem dX6_keeps_40 : decode cX6_keeps 40 = .ok (.aload_n 0, 1) := by decide +kernel
theorem dX6_keeps_41 : decode cX6_keeps 41 = .ok (.aload_n 0, 1) := by decide +kernel
theorem dX6_keeps_42 : decode cX6_keeps 42 = .ok (.getfield 41, 3) := by decide +kernel
theorem dX6_keeps_45 : decode cX6_keeps 45 = .ok (.iload 5, 2) := by decide +kernel
theorem dX6_keeps_47 : decode cX6_keeps 47 = .ok (.iaload, 1) := by decide +kernel
theorem dX6_keeps_48 : decode cX6_keeps 48 = .ok (.iload 4, 2) := by decide +kernel
theorem dX6_keeps_50 : decode cX6_keeps 50 = .ok (.invokevirtual 136, 3) := by decide +kernel
theorem dX6_keeps_53 : decode cX6_keeps 53 = .ok (.aload_n 0, 1) := by decide +kernel
theorem dX6_keeps_54 : decode cX6_keeps 54 = .ok (.aload_n 0, 1) := by decide +kernel
theorem dX6_keeps_55 : decode cX6_keeps 55 = .ok (.getfield 41, 3) := by decide +kernel
theorem dX6_keeps_58 : decode cX6_keeps 58 = .ok (.iload 5, 2) := by decide +kernel
theorem dX6_keeps_60 : decode cX6_keeps 60 = .ok (.iaload, 1) := by decide +kernel
theorem dX6_keeps_61 : decode cX6_keeps 61 = .ok (.iconst 0, 1) := by decide +kernel
theorem dX6_keeps_62 : decode cX6_keeps 62 = .ok (.invokevirtual 136, 3) := by decide +kernel
theorem dX6_keeps_65 : decode cX6_keeps 65 = .ok (.if_icmp .ne 7, 3) := by decide +kernel
theorem dX6_keeps_68 : decode cX6_keeps 68 = .ok (.iconst 1, 1) := by decide +kernel
theorem dX6_keeps_69 : decode cX6_keeps 69 = .ok (.goto 4, 3) := by decide +kernel
theorem dX6_keeps_72 : decode cX6_keeps 72 = .ok (.iconst 0, 1) := by decide +kernel
theorem dX6_keeps_73 : decode cX6_keeps 73 = .ok (.istore_n 3, 1) := by decide +kernel
theorem dX6_keeps_74 : decode cX6_keeps 74 = .ok (.iinc 5 1, 3) := by decide +kernel
theorem dX6_keeps_77 : decode cX6_keeps 77 = .ok (.goto (-47), 3) := by decide +kernel
theorem dX6_keeps_80 : decode cX6_keeps 80 = .ok (.iinc 4 1, 3) := by decide +kernel
theorem dX6_keeps_83 : decode cX6_keeps 83 = .ok (.goto (-62), 3) := by decide +kernel
theorem dX6_keeps_86 : decode cX6_keeps 86 = .ok (.iconst 0, 1) := by decide +kernel
theorem dX6_keeps_87 : decode cX6_keeps 87 = .ok (.istore 4, 2) := by decide +kernel
theorem dX6_keeps_89 : decode cX6_keeps 89 = .ok (.iload 4, 2) := by decide +kernel
theorem dX6_keeps_91 : decode cX6_keeps 91 = .ok (.aload_n 0, 1) := by decide +kernel
theorem dX6_keeps_92 : decode cX6_keeps 92 = .ok (.getfield 48, 3) := by decide +kernel
theorem dX6_keeps_95 : decode cX6_keeps 95 = .ok (.if_icmp .ge 46, 3) := by decide +kernel
theorem dX6_keeps_98 : decode cX6_keeps 98 = .ok (.aload_n 0, 1) := by decide +kernel
theorem dX6_keeps_99 : decode cX6_keeps 99 = .ok (.iload 4, 2) := by decide +kernel
theorem dX6_keeps_101 : decode cX6_keeps 101 = .ok (.iload_n 1, 1) := by decide +kernel
theorem dX6_keeps_102 : decode cX6_keeps 102 = .ok (.invokevirtual 139, 3) := by decide +kernel
theorem dX6_keeps_105 : decode cX6_keeps 105 = .ok (.istore 5, 2) := by decide +kernel
theorem dX6_keeps_107 : decode cX6_keeps 107 = .ok (.iload_n 3, 1) := by decide +kernel
theorem dX6_keeps_108 : decode cX6_keeps 108 = .ok (.ifCond .eq 25, 3) := by decide +kernel
theorem dX6_keeps_111 : decode cX6_keeps 111 = .ok (.iload 5, 2) := by decide +kernel
theorem dX6_keeps_113 : decode cX6_keeps 113 = .ok (.iconst (-1), 1) := by decide +kernel
theorem dX6_keeps_114 : decode cX6_keeps 114 = .ok (.if_icmp .eq 15, 3) := by decide +kernel
theorem dX6_keeps_117 : decode cX6_keeps 117 = .ok (.aload_n 0, 1) := by decide +kernel
theorem dX6_keeps_118 : decode cX6_keeps 118 = .ok (.iload 4, 2) := by decide +kernel
theorem dX6_keeps_120 : decode cX6_keeps 120 = .ok (.iload_n 2, 1) := by decide +kernel
theorem dX6_keeps_121 : decode cX6_keeps 121 = .ok (.invokevirtual 106, 3) := by decide +kernel
theorem dX6_keeps_124 : decode cX6_keeps 124 = .ok (.iload 5, 2) := by decide +kernel
theorem dX6_keeps_126 : decode cX6_keeps 126 = .ok (.if_icmp .gt 7, 3) := by decide +kernel
theorem dX6_keeps_129 : decode cX6_keeps 129 = .ok (.iconst 1, 1) := by decide +kernel
theorem dX6_keeps_130 : decode cX6_keeps 130 = .ok (.goto 4, 3) := by decide +kernel
theorem dX6_keeps_133 : decode cX6_keeps 133 = .ok (.iconst 0, 1) := by decide +kernel
theorem dX6_keeps_134 : decode cX6_keeps 134 = .ok (.istore_n 3, 1) := by decide +kernel
theorem dX6_keeps_135 : decode cX6_keeps 135 = .ok (.iinc 4 1, 3) := by decide +kernel
theorem dX6_keeps_138 : decode cX6_keeps 138 = .ok (.goto (-49), 3) := by decide +kernel
theorem dX6_keeps_141 : decode cX6_keeps 141 = .ok (.iload_n 3, 1) := by decide +kernel
theorem dX6_keeps_142 : decode cX6_keeps 142 = .ok (.ireturn, 1) := by decide +kernel
theorem dX6_touches_0 : decode cX6_touches 0 = .ok (.iconst 0, 1) := by decide +kernel
theorem dX6_touches_1 : decode cX6_touches 1 = .ok (.istore 4, 2) := by decide +kernel
theorem dX6_touches_3 : decode cX6_touches 3 = .ok (.iconst 0, 1) := by decide +kernel
theorem dX6_touches_4 : decode cX6_touches 4 = .ok (.istore 5, 2) := by decide +kernel
theorem dX6_touches_6 : decode cX6_touches 6 = .ok (.iload 5, 2) := by decide +kernel
theorem dX6_touches_8 : decode cX6_touches 8 = .ok (.aload_n 0, 1) := by decide +kernel
theorem dX6_touches_9 : decode cX6_touches 9 = .ok (.getfield 48, 3) := by decide +kernel
theorem dX6_touches_12 : decode cX6_touches 12 = .ok (.if_icmp .ge 42, 3) := by decide +kernel
theorem dX6_touches_15 : decode cX6_touches 15 = .ok (.iload 4, 2) := by decide +kernel
theorem dX6_touches_17 : decode cX6_touches 17 = .ok (.ifCond .ne 24, 3) := by decide +kernel
theorem dX6_touches_20 : decode cX6_touches 20 = .ok (.iload_n 3, 1) := by decide +kernel
theorem dX6_touches_21 : decode cX6_touches 21 = .ok (.iload 5, 2) := by decide +kernel
theorem dX6_touches_23 : decode cX6_touches 23 = .ok (.ishr, 1) := by decide +kernel
theorem dX6_touches_24 : decode cX6_touches 24 = .ok (.iconst 1, 1) := by decide +kernel
theorem dX6_touches_25 : decode cX6_touches 25 = .ok (.iand, 1) := by decide +kernel
theorem dX6_touches_26 : decode cX6_touches 26 = .ok (.iconst 1, 1) := by decide +kernel
theorem dX6_touches_27 : decode cX6_touches 27 = .ok (.if_icmp .ne 18, 3) := by decide +kernel
theorem dX6_touches_30 : decode cX6_touches 30 = .ok (.aload_n 0, 1) := by decide +kernel
theorem dX6_touches_31 : decode cX6_touches 31 = .ok (.iload_n 1, 1) := by decide +kernel
theorem dX6_touches_32 : decode cX6_touches 32 = .ok (.iload_n 2, 1) := by decide +kernel
theorem dX6_touches_33 : decode cX6_touches 33 = .ok (.iload 5, 2) := by decide +kernel
theorem dX6_touches_35 : decode cX6_touches 35 = .ok (.invokevirtual 68, 3) := by decide +kernel
theorem dX6_touches_38 : decode cX6_touches 38 = .ok (.ifCond .le 7, 3) := by decide +kernel
theorem dX6_touches_41 : decode cX6_touches 41 = .ok (.iconst 1, 1) := by decide +kernel
theorem dX6_touches_42 : decode cX6_touches 42 = .ok (.goto 4, 3) := by decide +kernel
theorem dX6_touches_45 : decode cX6_touches 45 = .ok (.iconst 0, 1) := by decide +kernel
theorem dX6_touches_46 : decode cX6_touches 46 = .ok (.istore 4, 2) := by decide +kernel
theorem dX6_touches_48 : decode cX6_touches 48 = .ok (.iinc 5 1, 3) := by decide +kernel
theorem dX6_touches_51 : decode cX6_touches 51 = .ok (.goto (-45), 3) := by decide +kernel
theorem dX6_touches_54 : decode cX6_touches 54 = .ok (.iload 4, 2) := by decide +kernel
theorem dX6_touches_56 : decode cX6_touches 56 = .ok (.ireturn, 1) := by decide +kernel
theorem dX6_isSiphon_0 : decode cX6_isSiphon 0 = .ok (.iconst 1, 1) := by decide +kernel
theorem dX6_isSiphon_1 : decode cX6_isSiphon 1 = .ok (.istore_n 2, 1) := by decide +kernel
theorem dX6_isSiphon_2 : decode cX6_isSiphon 2 = .ok (.iconst 0, 1) := by decide +kernel
theorem dX6_isSiphon_3 : decode cX6_isSiphon 3 = .ok (.istore_n 3, 1) := by decide +kernel
theorem dX6_isSiphon_4 : decode cX6_isSiphon 4 = .ok (.iload_n 3, 1) := by decide +kernel
theorem dX6_isSiphon_5 : decode cX6_isSiphon 5 = .ok (.aload_n 0, 1) := by decide +kernel
theorem dX6_isSiphon_6 : decode cX6_isSiphon 6 = .ok (.getfield 55, 3) := by decide +kernel
theorem dX6_isSiphon_9 : decode cX6_isSiphon 9 = .ok (.if_icmp .ge 39, 3) := by decide +kernel
theorem dX6_isSiphon_12 : decode cX6_isSiphon 12 = .ok (.iload_n 2, 1) := by decide +kernel
theorem dX6_isSiphon_13 : decode cX6_isSiphon 13 = .ok (.ifCond .eq 27, 3) := by decide +kernel
theorem dX6_isSiphon_16 : decode cX6_isSiphon 16 = .ok (.aload_n 0, 1) := by decide +kernel
theorem dX6_isSiphon_17 : decode cX6_isSiphon 17 = .ok (.iconst 1, 1) := by decide +kernel
theorem dX6_isSiphon_18 : decode cX6_isSiphon 18 = .ok (.iload_n 3, 1) := by decide +kernel
theorem dX6_isSiphon_19 : decode cX6_isSiphon 19 = .ok (.iload_n 1, 1) := by decide +kernel
theorem dX6_isSiphon_20 : decode cX6_isSiphon 20 = .ok (.invokevirtual 142, 3) := by decide +kernel
theorem dX6_isSiphon_23 : decode cX6_isSiphon 23 = .ok (.ifCond .eq 13, 3) := by decide +kernel
theorem dX6_isSiphon_26 : decode cX6_isSiphon 26 = .ok (.aload_n 0, 1) := by decide +kernel
theorem dX6_isSiphon_27 : decode cX6_isSiphon 27 = .ok (.iconst 0, 1) := by decide +kernel
theorem dX6_isSiphon_28 : decode cX6_isSiphon 28 = .ok (.iload_n 3, 1) := by decide +kernel
theorem dX6_isSiphon_29 : decode cX6_isSiphon 29 = .ok (.iload_n 1, 1) := by decide +kernel
theorem dX6_isSiphon_30 : decode cX6_isSiphon 30 = .ok (.invokevirtual 142, 3) := by decide +kernel
theorem dX6_isSiphon_33 : decode cX6_isSiphon 33 = .ok (.ifCond .eq 7, 3) := by decide +kernel
theorem dX6_isSiphon_36 : decode cX6_isSiphon 36 = .ok (.iconst 1, 1) := by decide +kernel
theorem dX6_isSiphon_37 : decode cX6_isSiphon 37 = .ok (.goto 4, 3) := by decide +kernel
theorem dX6_isSiphon_40 : decode cX6_isSiphon 40 = .ok (.iconst 0, 1) := by decide +kernel
theorem dX6_isSiphon_41 : decode cX6_isSiphon 41 = .ok (.istore_n 2, 1) := by decide +kernel
theorem dX6_isSiphon_42 : decode cX6_isSiphon 42 = .ok (.iinc 3 1, 3) := by decide +kernel
theorem dX6_isSiphon_45 : decode cX6_isSiphon 45 = .ok (.goto (-41), 3) := by decide +kernel
theorem dX6_isSiphon_48 : decode cX6_isSiphon 48 = .ok (.iload_n 2, 1) := by decide +kernel
theorem dX6_isSiphon_49 : decode cX6_isSiphon 49 = .ok (.ireturn, 1) := by decide +kernel
theorem dX6_findSiphons_0 : decode cX6_findSiphons 0 = .ok (.iconst 0, 1) := by decide +kernel
theorem dX6_findSiphons_1 : decode cX6_findSiphons 1 = .ok (.istore_n 1, 1) := by decide +kernel
theorem dX6_findSiphons_2 : decode cX6_findSiphons 2 = .ok (.iconst 1, 1) := by decide +kernel
theorem dX6_findSiphons_3 : decode cX6_findSiphons 3 = .ok (.istore_n 2, 1) := by decide +kernel
theorem dX6_findSiphons_4 : decode cX6_findSiphons 4 = .ok (.iload_n 2, 1) := by decide +kernel
theorem dX6_findSiphons_5 : decode cX6_findSiphons 5 = .ok (.iconst 1, 1) := by decide +kernel
theorem dX6_findSiphons_6 : decode cX6_findSiphons 6 = .ok (.aload_n 0, 1) := by decide +kernel
theorem dX6_findSiphons_7 : decode cX6_findSiphons 7 = .ok (.getfield 48, 3) := by decide +kernel
theorem dX6_findSiphons_10 : decode cX6_findSiphons 10 = .ok (.ishl, 1) := by decide +kernel
theorem dX6_findSiphons_11 : decode cX6_findSiphons 11 = .ok (.if_icmp .ge 68, 3) := by decide +kernel
theorem dX6_findSiphons_14 : decode cX6_findSiphons 14 = .ok (.aload_n 0, 1) := by decide +kernel
theorem dX6_findSiphons_15 : decode cX6_findSiphons 15 = .ok (.iload_n 2, 1) := by decide +kernel
theorem dX6_findSiphons_16 : decode cX6_findSiphons 16 = .ok (.invokevirtual 145, 3) := by decide +kernel
theorem dX6_findSiphons_19 : decode cX6_findSiphons 19 = .ok (.istore_n 3, 1) := by decide +kernel
theorem dX6_findSiphons_20 : decode cX6_findSiphons 20 = .ok (.iconst 0, 1) := by decide +kernel
theorem dX6_findSiphons_21 : decode cX6_findSiphons 21 = .ok (.istore 4, 2) := by decide +kernel
theorem dX6_findSiphons_23 : decode cX6_findSiphons 23 = .ok (.iload 4, 2) := by decide +kernel
theorem dX6_findSiphons_25 : decode cX6_findSiphons 25 = .ok (.iload_n 1, 1) := by decide +kernel
theorem dX6_findSiphons_26 : decode cX6_findSiphons 26 = .ok (.if_icmp .ge 33, 3) := by decide +kernel
theorem dX6_findSiphons_29 : decode cX6_findSiphons 29 = .ok (.iload_n 3, 1) := by decide +kernel
theorem dX6_findSiphons_30 : decode cX6_findSiphons 30 = .ok (.ifCond .eq 21, 3) := by decide +kernel
theorem dX6_findSiphons_33 : decode cX6_findSiphons 33 = .ok (.aload_n 0, 1) := by decide +kernel
theorem dX6_findSiphons_34 : decode cX6_findSiphons 34 = .ok (.getfield 41, 3) := by decide +kernel
theorem dX6_findSiphons_37 : decode cX6_findSiphons 37 = .ok (.iload 4, 2) := by decide +kernel
theorem dX6_findSiphons_39 : decode cX6_findSiphons 39 = .ok (.iaload, 1) := by decide +kernel
theorem dX6_findSiphons_40 : decode cX6_findSiphons 40 = .ok (.iload_n 2, 1) := by decide +kernel
theorem dX6_findSiphons_41 : decode cX6_findSiphons 41 = .ok (.iconst (-1), 1) := by decide +kernel
theorem dX6_findSiphons_42 : decode cX6_findSiphons 42 = .ok (.ixor, 1) := by decide +kernel
theorem dX6_findSiphons_43 : decode cX6_findSiphons 43 = .ok (.iand, 1) := by decide +kernel
theorem dX6_findSiphons_44 : decode cX6_findSiphons 44 = .ok (.ifCond .eq 7, 3) := by decide +kernel
theorem dX6_findSiphons_47 : decode cX6_findSiphons 47 = .ok (.iconst 1, 1) := by decide +kernel
theorem dX6_findSiphons_48 : decode cX6_findSiphons 48 = .ok (.goto 4, 3) := by decide +kernel
theorem dX6_findSiphons_51 : decode cX6_findSiphons 51 = .ok (.iconst 0, 1) := by decide +kernel
theorem dX6_findSiphons_52 : decode cX6_findSiphons 52 = .ok (.istore_n 3, 1) := by decide +kernel
theorem dX6_findSiphons_53 : decode cX6_findSiphons 53 = .ok (.iinc 4 1, 3) := by decide +kernel
theorem dX6_findSiphons_56 : decode cX6_findSiphons 56 = .ok (.goto (-33), 3) := by decide +kernel
theorem dX6_findSiphons_59 : decode cX6_findSiphons 59 = .ok (.iload_n 3, 1) := by decide +kernel
theorem dX6_findSiphons_60 : decode cX6_findSiphons 60 = .ok (.ifCond .eq 13, 3) := by decide +kernel
theorem dX6_findSiphons_63 : decode cX6_findSiphons 63 = .ok (.aload_n 0, 1) := by decide +kernel
theorem dX6_findSiphons_64 : decode cX6_findSiphons 64 = .ok (.getfield 41, 3) := by decide +kernel
theorem dX6_findSiphons_67 : decode cX6_findSiphons 67 = .ok (.iload_n 1, 1) := by decide +kernel
theorem dX6_findSiphons_68 : decode cX6_findSiphons 68 = .ok (.iload_n 2, 1) := by decide +kernel
theorem dX6_findSiphons_69 : decode cX6_findSiphons 69 = .ok (.iastore, 1) := by decide +kernel
theorem dX6_findSiphons_70 : decode cX6_findSiphons 70 = .ok (.iinc 1 1, 3) := by decide +kernel
theorem dX6_findSiphons_73 : decode cX6_findSiphons 73 = .ok (.iinc 2 1, 3) := by decide +kernel
theorem dX6_findSiphons_76 : decode cX6_findSiphons 76 = .ok (.goto (-72), 3) := by decide +kernel
theorem dX6_findSiphons_79 : decode cX6_findSiphons 79 = .ok (.iload_n 1, 1) := by decide +kernel
theorem dX6_findSiphons_80 : decode cX6_findSiphons 80 = .ok (.ireturn, 1) := by decide +kernel
theorem dX6_siphons_0 : decode cX6_siphons 0 = .ok (.aload_n 0, 1) := by decide +kernel
theorem dX6_siphons_1 : decode cX6_siphons 1 = .ok (.iconst 0, 1) := by decide +kernel
theorem dX6_siphons_2 : decode cX6_siphons 2 = .ok (.putfield 44, 3) := by decide +kernel
theorem dX6_siphons_5 : decode cX6_siphons 5 = .ok (.aload_n 0, 1) := by decide +kernel
theorem dX6_siphons_6 : decode cX6_siphons 6 = .ok (.invokevirtual 148, 3) := by decide +kernel
theorem dX6_siphons_9 : decode cX6_siphons 9 = .ok (.ireturn, 1) := by decide +kernel
theorem dX6_siphon_0 : decode cX6_siphon 0 = .ok (.aload_n 0, 1) := by decide +kernel
theorem dX6_siphon_1 : decode cX6_siphon 1 = .ok (.iload_n 1, 1) := by decide +kernel
theorem dX6_siphon_2 : decode cX6_siphon 2 = .ok (.iconst 0, 1) := by decide +kernel
theorem dX6_siphon_3 : decode cX6_siphon 3 = .ok (.aload_n 0, 1) := by decide +kernel
theorem dX6_siphon_4 : decode cX6_siphon 4 = .ok (.invokevirtual 148, 3) := by decide +kernel
theorem dX6_siphon_7 : decode cX6_siphon 7 = .ok (.iconst 1, 1) := by decide +kernel
theorem dX6_siphon_8 : decode cX6_siphon 8 = .ok (.isub, 1) := by decide +kernel
theorem dX6_siphon_9 : decode cX6_siphon 9 = .ok (.invokestatic 51, 3) := by decide +kernel
theorem dX6_siphon_12 : decode cX6_siphon 12 = .ok (.ifCond .eq 7, 3) := by decide +kernel
theorem dX6_siphon_15 : decode cX6_siphon 15 = .ok (.iconst 0, 1) := by decide +kernel
theorem dX6_siphon_16 : decode cX6_siphon 16 = .ok (.goto 4, 3) := by decide +kernel
theorem dX6_siphon_19 : decode cX6_siphon 19 = .ok (.iconst 1, 1) := by decide +kernel
theorem dX6_siphon_20 : decode cX6_siphon 20 = .ok (.invokevirtual 58, 3) := by decide +kernel
theorem dX6_siphon_23 : decode cX6_siphon 23 = .ok (.ifCond .eq 12, 3) := by decide +kernel
theorem dX6_siphon_26 : decode cX6_siphon 26 = .ok (.aload_n 0, 1) := by decide +kernel
theorem dX6_siphon_27 : decode cX6_siphon 27 = .ok (.getfield 41, 3) := by decide +kernel
theorem dX6_siphon_30 : decode cX6_siphon 30 = .ok (.iload_n 1, 1) := by decide +kernel
theorem dX6_siphon_31 : decode cX6_siphon 31 = .ok (.iaload, 1) := by decide +kernel
theorem dX6_siphon_32 : decode cX6_siphon 32 = .ok (.goto 4, 3) := by decide +kernel
theorem dX6_siphon_35 : decode cX6_siphon 35 = .ok (.iconst 0, 1) := by decide +kernel
theorem dX6_siphon_36 : decode cX6_siphon 36 = .ok (.ireturn, 1) := by decide +kernel
theorem dX6_trapIn_0 : decode cX6_trapIn 0 = .ok (.iload_n 1, 1) := by decide +kernel
theorem dX6_trapIn_1 : decode cX6_trapIn 1 = .ok (.istore_n 2, 1) := by decide +kernel
theorem dX6_trapIn_2 : decode cX6_trapIn 2 = .ok (.iconst 0, 1) := by decide +kernel
theorem dX6_trapIn_3 : decode cX6_trapIn 3 = .ok (.istore_n 3, 1) := by decide +kernel
theorem dX6_trapIn_4 : decode cX6_trapIn 4 = .ok (.iload_n 3, 1) := by decide +kernel
theorem dX6_trapIn_5 : decode cX6_trapIn 5 = .ok (.bipush 6, 2) := by decide +kernel
theorem dX6_trapIn_7 : decode cX6_trapIn 7 = .ok (.if_icmp .ge 97, 3) := by decide +kernel
theorem dX6_trapIn_10 : decode cX6_trapIn 10 = .ok (.iconst 0, 1) := by decide +kernel
theorem dX6_trapIn_11 : decode cX6_trapIn 11 = .ok (.istore 4, 2) := by decide +kernel
theorem dX6_trapIn_13 : decode cX6_trapIn 13 = .ok (.iload 4, 2) := by decide +kernel
theorem dX6_trapIn_15 : decode cX6_trapIn 15 = .ok (.aload_n 0, 1) := by decide +kernel
theorem dX6_trapIn_16 : decode cX6_trapIn 16 = .ok (.getfield 55, 3) := by decide +kernel
theorem dX6_trapIn_19 : decode cX6_trapIn 19 = .ok (.if_icmp .ge 79, 3) := by decide +kernel
theorem dX6_trapIn_22 : decode cX6_trapIn 22 = .ok (.aload_n 0, 1) := by decide +kernel
theorem dX6_trapIn_23 : decode cX6_trapIn 23 = .ok (.iconst 1, 1) := by decide +kernel
theorem dX6_trapIn_24 : decode cX6_trapIn 24 = .ok (.iload 4, 2) := by decide +kernel
theorem dX6_trapIn_26 : decode cX6_trapIn 26 = .ok (.iload_n 2, 1) := by decide +kernel
theorem dX6_trapIn_27 : decode cX6_trapIn 27 = .ok (.invokevirtual 142, 3) := by decide +kernel
theorem dX6_trapIn_30 : decode cX6_trapIn 30 = .ok (.istore 5, 2) := by decide +kernel
theorem dX6_trapIn_32 : decode cX6_trapIn 32 = .ok (.iconst 0, 1) := by decide +kernel
theorem dX6_trapIn_33 : decode cX6_trapIn 33 = .ok (.istore 6, 2) := by decide +kernel
theorem dX6_trapIn_35 : decode cX6_trapIn 35 = .ok (.iload 6, 2) := by decide +kernel
theorem dX6_trapIn_37 : decode cX6_trapIn 37 = .ok (.aload_n 0, 1) := by decide +kernel
theorem dX6_trapIn_38 : decode cX6_trapIn 38 = .ok (.getfield 48, 3) := by decide +kernel
theorem dX6_trapIn_41 : decode cX6_trapIn 41 = .ok (.if_icmp .ge 51, 3) := by decide +kernel
theorem dX6_trapIn_44 : decode cX6_trapIn 44 = .ok (.iload 5, 2) := by decide +kernel
theorem dX6_trapIn_46 : decode cX6_trapIn 46 = .ok (.ifCond .ne 46, 3) := by decide +kernel
theorem dX6_trapIn_49 : decode cX6_trapIn 49 = .ok (.iload_n 2, 1) := by decide +kernel
theorem dX6_trapIn_50 : decode cX6_trapIn 50 = .ok (.aload_n 0, 1) := by decide +kernel
theorem dX6_trapIn_51 : decode cX6_trapIn 51 = .ok (.iconst 0, 1) := by decide +kernel
theorem dX6_trapIn_52 : decode cX6_trapIn 52 = .ok (.iload 4, 2) := by decide +kernel
theorem dX6_trapIn_54 : decode cX6_trapIn 54 = .ok (.iload 6, 2) := by decide +kernel
theorem dX6_trapIn_56 : decode cX6_trapIn 56 = .ok (.invokevirtual 68, 3) := by decide +kernel
theorem dX6_trapIn_59 : decode cX6_trapIn 59 = .ok (.ifCond .gt 15, 3) := by decide +kernel
theorem dX6_trapIn_62 : decode cX6_trapIn 62 = .ok (.aload_n 0, 1) := by decide +kernel
theorem dX6_trapIn_63 : decode cX6_trapIn 63 = .ok (.iconst 4, 1) := by decide +kernel
theorem dX6_trapIn_64 : decode cX6_trapIn 64 = .ok (.iload 4, 2) := by decide +kernel
theorem dX6_trapIn_66 : decode cX6_trapIn 66 = .ok (.iload 6, 2) := by decide +kernel
theorem dX6_trapIn_68 : decode cX6_trapIn 68 = .ok (.invokevirtual 68, 3) := by decide +kernel
theorem dX6_trapIn_71 : decode cX6_trapIn 71 = .ok (.ifCond .le 12, 3) := by decide +kernel
theorem dX6_trapIn_74 : decode cX6_trapIn 74 = .ok (.iconst 1, 1) := by decide +kernel
theorem dX6_trapIn_75 : decode cX6_trapIn 75 = .ok (.iload 6, 2) := by decide +kernel
theorem dX6_trapIn_77 : decode cX6_trapIn 77 = .ok (.ishl, 1) := by decide +kernel
theorem dX6_trapIn_78 : decode cX6_trapIn 78 = .ok (.iconst (-1), 1) := by decide +kernel
theorem dX6_trapIn_79 : decode cX6_trapIn 79 = .ok (.ixor, 1) := by decide +kernel
theorem dX6_trapIn_80 : decode cX6_trapIn 80 = .ok (.goto 4, 3) := by decide +kernel
theorem dX6_trapIn_83 : decode cX6_trapIn 83 = .ok (.iconst (-1), 1) := by decide +kernel
theorem dX6_trapIn_84 : decode cX6_trapIn 84 = .ok (.iand, 1) := by decide +kernel
theorem dX6_trapIn_85 : decode cX6_trapIn 85 = .ok (.istore_n 2, 1) := by decide +kernel
theorem dX6_trapIn_86 : decode cX6_trapIn 86 = .ok (.iinc 6 1, 3) := by decide +kernel
theorem dX6_trapIn_89 : decode cX6_trapIn 89 = .ok (.goto (-54), 3) := by decide +kernel
theorem dX6_trapIn_92 : decode cX6_trapIn 92 = .ok (.iinc 4 1, 3) := by decide +kernel
theorem dX6_trapIn_95 : decode cX6_trapIn 95 = .ok (.goto (-82), 3) := by decide +kernel
theorem dX6_trapIn_98 : decode cX6_trapIn 98 = .ok (.iinc 3 1, 3) := by decide +kernel
theorem dX6_trapIn_101 : decode cX6_trapIn 101 = .ok (.goto (-97), 3) := by decide +kernel
theorem dX6_trapIn_104 : decode cX6_trapIn 104 = .ok (.iload_n 2, 1) := by decide +kernel
theorem dX6_trapIn_105 : decode cX6_trapIn 105 = .ok (.ireturn, 1) := by decide +kernel
theorem dX6_trap_0 : decode cX6_trap 0 = .ok (.aload_n 0, 1) := by decide +kernel
theorem dX6_trap_1 : decode cX6_trap 1 = .ok (.iload_n 1, 1) := by decide +kernel
theorem dX6_trap_2 : decode cX6_trap 2 = .ok (.iconst 0, 1) := by decide +kernel
theorem dX6_trap_3 : decode cX6_trap 3 = .ok (.iconst 1, 1) := by decide +kernel
theorem dX6_trap_4 : decode cX6_trap 4 = .ok (.aload_n 0, 1) := by decide +kernel
theorem dX6_trap_5 : decode cX6_trap 5 = .ok (.getfield 48, 3) := by decide +kernel
theorem dX6_trap_8 : decode cX6_trap 8 = .ok (.ishl, 1) := by decide +kernel
theorem dX6_trap_9 : decode cX6_trap 9 = .ok (.iconst 1, 1) := by decide +kernel
theorem dX6_trap_10 : decode cX6_trap 10 = .ok (.isub, 1) := by decide +kernel
theorem dX6_trap_11 : decode cX6_trap 11 = .ok (.invokestatic 51, 3) := by decide +kernel
theorem dX6_trap_14 : decode cX6_trap 14 = .ok (.ifCond .eq 7, 3) := by decide +kernel
theorem dX6_trap_17 : decode cX6_trap 17 = .ok (.iconst 0, 1) := by decide +kernel
theorem dX6_trap_18 : decode cX6_trap 18 = .ok (.goto 4, 3) := by decide +kernel
theorem dX6_trap_21 : decode cX6_trap 21 = .ok (.iconst 1, 1) := by decide +kernel
theorem dX6_trap_22 : decode cX6_trap 22 = .ok (.invokevirtual 58, 3) := by decide +kernel
theorem dX6_trap_25 : decode cX6_trap 25 = .ok (.ifCond .eq 11, 3) := by decide +kernel
theorem dX6_trap_28 : decode cX6_trap 28 = .ok (.aload_n 0, 1) := by decide +kernel
theorem dX6_trap_29 : decode cX6_trap 29 = .ok (.iload_n 1, 1) := by decide +kernel
theorem dX6_trap_30 : decode cX6_trap 30 = .ok (.invokevirtual 151, 3) := by decide +kernel
theorem dX6_trap_33 : decode cX6_trap 33 = .ok (.goto 4, 3) := by decide +kernel
theorem dX6_trap_36 : decode cX6_trap 36 = .ok (.iconst 0, 1) := by decide +kernel
theorem dX6_trap_37 : decode cX6_trap 37 = .ok (.ireturn, 1) := by decide +kernel
theorem dX6_isPromising_0 : decode cX6_isPromising 0 = .ok (.aload_n 0, 1) := by decide +kernel
theorem dX6_isPromising_1 : decode cX6_isPromising 1 = .ok (.iconst 0, 1) := by decide +kernel
theorem dX6_isPromising_2 : decode cX6_isPromising 2 = .ok (.putfield 44, 3) := by decide +kernel
theorem dX6_isPromising_5 : decode cX6_isPromising 5 = .ok (.aload_n 0, 1) := by decide +kernel
theorem dX6_isPromising_6 : decode cX6_isPromising 6 = .ok (.invokevirtual 148, 3) := by decide +kernel
theorem dX6_isPromising_9 : decode cX6_isPromising 9 = .ok (.istore_n 1, 1) := by decide +kernel
theorem dX6_isPromising_10 : decode cX6_isPromising 10 = .ok (.iconst 1, 1) := by decide +kernel
theorem dX6_isPromising_11 : decode cX6_isPromising 11 = .ok (.istore_n 2, 1) := by decide +kernel
theorem dX6_isPromising_12 : decode cX6_isPromising 12 = .ok (.iconst 0, 1) := by decide +kernel
theorem dX6_isPromising_13 : decode cX6_isPromising 13 = .ok (.istore_n 3, 1) := by decide +kernel
theorem dX6_isPromising_14 : decode cX6_isPromising 14 = .ok (.iload_n 3, 1) := by decide +kernel
theorem dX6_isPromising_15 : decode cX6_isPromising 15 = .ok (.iload_n 1, 1) := by decide +kernel
theorem dX6_isPromising_16 : decode cX6_isPromising 16 = .ok (.if_icmp .ge 90, 3) := by decide +kernel
theorem dX6_isPromising_19 : decode cX6_isPromising 19 = .ok (.aload_n 0, 1) := by decide +kernel
theorem dX6_isPromising_20 : decode cX6_isPromising 20 = .ok (.aload_n 0, 1) := by decide +kernel
theorem dX6_isPromising_21 : decode cX6_isPromising 21 = .ok (.getfield 41, 3) := by decide +kernel
theorem dX6_isPromising_24 : decode cX6_isPromising 24 = .ok (.iload_n 3, 1) := by decide +kernel
theorem dX6_isPromising_25 : decode cX6_isPromising 25 = .ok (.iaload, 1) := by decide +kernel
theorem dX6_isPromising_26 : decode cX6_isPromising 26 = .ok (.invokevirtual 151, 3) := by decide +kernel
theorem dX6_isPromising_29 : decode cX6_isPromising 29 = .ok (.istore 4, 2) := by decide +kernel
theorem dX6_isPromising_31 : decode cX6_isPromising 31 = .ok (.iconst 0, 1) := by decide +kernel
theorem dX6_isPromising_32 : decode cX6_isPromising 32 = .ok (.istore 5, 2) := by decide +kernel
theorem dX6_isPromising_34 : decode cX6_isPromising 34 = .ok (.iconst 0, 1) := by decide +kernel
theorem dX6_isPromising_35 : decode cX6_isPromising 35 = .ok (.istore 6, 2) := by decide +kernel
theorem dX6_isPromising_37 : decode cX6_isPromising 37 = .ok (.iload 6, 2) := by decide +kernel
theorem dX6_isPromising_39 : decode cX6_isPromising 39 = .ok (.aload_n 0, 1) := by decide +kernel
theorem dX6_isPromising_40 : decode cX6_isPromising 40 = .ok (.getfield 48, 3) := by decide +kernel
theorem dX6_isPromising_43 : decode cX6_isPromising 43 = .ok (.if_icmp .ge 42, 3) := by decide +kernel
theorem dX6_isPromising_46 : decode cX6_isPromising 46 = .ok (.iload 5, 2) := by decide +kernel
theorem dX6_isPromising_48 : decode cX6_isPromising 48 = .ok (.ifCond .ne 24, 3) := by decide +kernel
theorem dX6_isPromising_51 : decode cX6_isPromising 51 = .ok (.iload 4, 2) := by decide +kernel
theorem dX6_isPromising_53 : decode cX6_isPromising 53 = .ok (.iload 6, 2) := by decide +kernel
theorem dX6_isPromising_55 : decode cX6_isPromising 55 = .ok (.ishr, 1) := by decide +kernel
theorem dX6_isPromising_56 : decode cX6_isPromising 56 = .ok (.iconst 1, 1) := by decide +kernel
theorem dX6_isPromising_57 : decode cX6_isPromising 57 = .ok (.iand, 1) := by decide +kernel
theorem dX6_isPromising_58 : decode cX6_isPromising 58 = .ok (.iconst 1, 1) := by decide +kernel
theorem dX6_isPromising_59 : decode cX6_isPromising 59 = .ok (.if_icmp .ne 17, 3) := by decide +kernel
theorem dX6_isPromising_62 : decode cX6_isPromising 62 = .ok (.aload_n 0, 1) := by decide +kernel
theorem dX6_isPromising_63 : decode cX6_isPromising 63 = .ok (.getfield 7, 3) := by decide +kernel
theorem dX6_isPromising_66 : decode cX6_isPromising 66 = .ok (.iload 6, 2) := by decide +kernel
theorem dX6_isPromising_68 : decode cX6_isPromising 68 = .ok (.iaload, 1) := by decide +kernel
theorem dX6_isPromising_69 : decode cX6_isPromising 69 = .ok (.ifCond .le 7, 3) := by decide +kernel
theorem dX6_isPromising_72 : decode cX6_isPromising 72 = .ok (.iconst 1, 1) := by decide +kernel
theorem dX6_isPromising_73 : decode cX6_isPromising 73 = .ok (.goto 4, 3) := by decide +kernel
theorem dX6_isPromising_76 : decode cX6_isPromising 76 = .ok (.iconst 0, 1) := by decide +kernel
theorem dX6_isPromising_77 : decode cX6_isPromising 77 = .ok (.istore 5, 2) := by decide +kernel
theorem dX6_isPromising_79 : decode cX6_isPromising 79 = .ok (.iinc 6 1, 3) := by decide +kernel
theorem dX6_isPromising_82 : decode cX6_isPromising 82 = .ok (.goto (-45), 3) := by decide +kernel
theorem dX6_isPromising_85 : decode cX6_isPromising 85 = .ok (.iload_n 2, 1) := by decide +kernel
theorem dX6_isPromising_86 : decode cX6_isPromising 86 = .ok (.ifCond .eq 12, 3) := by decide +kernel
theorem dX6_isPromising_89 : decode cX6_isPromising 89 = .ok (.iload 5, 2) := by decide +kernel
theorem dX6_isPromising_91 : decode cX6_isPromising 91 = .ok (.ifCond .eq 7, 3) := by decide +kernel
theorem dX6_isPromising_94 : decode cX6_isPromising 94 = .ok (.iconst 1, 1) := by decide +kernel
theorem dX6_isPromising_95 : decode cX6_isPromising 95 = .ok (.goto 4, 3) := by decide +kernel
theorem dX6_isPromising_98 : decode cX6_isPromising 98 = .ok (.iconst 0, 1) := by decide +kernel
theorem dX6_isPromising_99 : decode cX6_isPromising 99 = .ok (.istore_n 2, 1) := by decide +kernel
theorem dX6_isPromising_100 : decode cX6_isPromising 100 = .ok (.iinc 3 1, 3) := by decide +kernel
theorem dX6_isPromising_103 : decode cX6_isPromising 103 = .ok (.goto (-89), 3) := by decide +kernel
theorem dX6_isPromising_106 : decode cX6_isPromising 106 = .ok (.iload_n 2, 1) := by decide +kernel
theorem dX6_isPromising_107 : decode cX6_isPromising 107 = .ok (.ireturn, 1) := by decide +kernel
theorem dX6_log_0 : decode cX6_log 0 = .ok (.aload_n 0, 1) := by decide +kernel
theorem dX6_log_1 : decode cX6_log 1 = .ok (.iload_n 1, 1) := by decide +kernel
theorem dX6_log_2 : decode cX6_log 2 = .ok (.invokevirtual 62, 3) := by decide +kernel
theorem dX6_log_5 : decode cX6_log 5 = .ok (.istore_n 2, 1) := by decide +kernel
theorem dX6_log_6 : decode cX6_log 6 = .ok (.aload_n 0, 1) := by decide +kernel
theorem dX6_log_7 : decode cX6_log 7 = .ok (.iload_n 2, 1) := by decide +kernel
theorem dX6_log_8 : decode cX6_log 8 = .ok (.ifCond .ne 7, 3) := by decide +kernel
theorem dX6_log_11 : decode cX6_log 11 = .ok (.iconst 1, 1) := by decide +kernel
theorem dX6_log_12 : decode cX6_log 12 = .ok (.goto 17, 3) := by decide +kernel
theorem dX6_log_15 : decode cX6_log 15 = .ok (.aload_n 0, 1) := by decide +kernel
theorem dX6_log_16 : decode cX6_log 16 = .ok (.getfield 154, 3) := by decide +kernel
theorem dX6_log_19 : decode cX6_log 19 = .ok (.bipush 10, 2) := by decide +kernel
theorem dX6_log_21 : decode cX6_log 21 = .ok (.if_icmp .ne 7, 3) := by decide +kernel
theorem dX6_log_24 : decode cX6_log 24 = .ok (.iconst 2, 1) := by decide +kernel
theorem dX6_log_25 : decode cX6_log 25 = .ok (.goto 4, 3) := by decide +kernel
theorem dX6_log_28 : decode cX6_log 28 = .ok (.iconst 0, 1) := by decide +kernel
theorem dX6_log_29 : decode cX6_log 29 = .ok (.invokevirtual 58, 3) := by decide +kernel
theorem dX6_log_32 : decode cX6_log 32 = .ok (.ifCond .ne 5, 3) := by decide +kernel
theorem dX6_log_35 : decode cX6_log 35 = .ok (.iconst 0, 1) := by decide +kernel
theorem dX6_log_36 : decode cX6_log 36 = .ok (.ireturn, 1) := by decide +kernel
theorem dX6_log_37 : decode cX6_log 37 = .ok (.aload_n 0, 1) := by decide +kernel
theorem dX6_log_38 : decode cX6_log 38 = .ok (.getfield 16, 3) := by decide +kernel
theorem dX6_log_41 : decode cX6_log 41 = .ok (.aload_n 0, 1) := by decide +kernel
theorem dX6_log_42 : decode cX6_log 42 = .ok (.getfield 154, 3) := by decide +kernel
theorem dX6_log_45 : decode cX6_log 45 = .ok (.iload_n 1, 1) := by decide +kernel
theorem dX6_log_46 : decode cX6_log 46 = .ok (.iastore, 1) := by decide +kernel
theorem dX6_log_47 : decode cX6_log 47 = .ok (.aload_n 0, 1) := by decide +kernel
theorem dX6_log_48 : decode cX6_log 48 = .ok (.dup, 1) := by decide +kernel
theorem dX6_log_49 : decode cX6_log 49 = .ok (.getfield 154, 3) := by decide +kernel
theorem dX6_log_52 : decode cX6_log 52 = .ok (.iconst 1, 1) := by decide +kernel
theorem dX6_log_53 : decode cX6_log 53 = .ok (.iadd, 1) := by decide +kernel
theorem dX6_log_54 : decode cX6_log 54 = .ok (.putfield 154, 3) := by decide +kernel
theorem dX6_log_57 : decode cX6_log 57 = .ok (.aload_n 0, 1) := by decide +kernel
theorem dX6_log_58 : decode cX6_log 58 = .ok (.getfield 154, 3) := by decide +kernel
theorem dX6_log_61 : decode cX6_log 61 = .ok (.ireturn, 1) := by decide +kernel
theorem dX6_blank_0 : decode cX6_blank 0 = .ok (.aload_n 0, 1) := by decide +kernel
theorem dX6_blank_1 : decode cX6_blank 1 = .ok (.iconst 0, 1) := by decide +kernel
theorem dX6_blank_2 : decode cX6_blank 2 = .ok (.putfield 44, 3) := by decide +kernel
theorem dX6_blank_5 : decode cX6_blank 5 = .ok (.aload_n 0, 1) := by decide +kernel
theorem dX6_blank_6 : decode cX6_blank 6 = .ok (.getfield 154, 3) := by decide +kernel
theorem dX6_blank_9 : decode cX6_blank 9 = .ok (.istore_n 1, 1) := by decide +kernel
theorem dX6_blank_10 : decode cX6_blank 10 = .ok (.aload_n 0, 1) := by decide +kernel
theorem dX6_blank_11 : decode cX6_blank 11 = .ok (.iconst 0, 1) := by decide +kernel
theorem dX6_blank_12 : decode cX6_blank 12 = .ok (.putfield 154, 3) := by decide +kernel
theorem dX6_blank_15 : decode cX6_blank 15 = .ok (.iload_n 1, 1) := by decide +kernel
theorem dX6_blank_16 : decode cX6_blank 16 = .ok (.ireturn, 1) := by decide +kernel
theorem dX6_goes_0 : decode cX6_goes 0 = .ok (.aload_n 0, 1) := by decide +kernel
theorem dX6_goes_1 : decode cX6_goes 1 = .ok (.iconst 0, 1) := by decide +kernel
theorem dX6_goes_2 : decode cX6_goes 2 = .ok (.putfield 44, 3) := by decide +kernel
theorem dX6_goes_5 : decode cX6_goes 5 = .ok (.aload_n 0, 1) := by decide +kernel
theorem dX6_goes_6 : decode cX6_goes 6 = .ok (.invokevirtual 75, 3) := by decide +kernel
theorem dX6_goes_9 : decode cX6_goes 9 = .ok (.iconst 0, 1) := by decide +kernel
theorem dX6_goes_10 : decode cX6_goes 10 = .ok (.istore_n 1, 1) := by decide +kernel
theorem dX6_goes_11 : decode cX6_goes 11 = .ok (.iload_n 1, 1) := by decide +kernel
theorem dX6_goes_12 : decode cX6_goes 12 = .ok (.aload_n 0, 1) := by decide +kernel
theorem dX6_goes_13 : decode cX6_goes 13 = .ok (.getfield 154, 3) := by decide +kernel
theorem dX6_goes_16 : decode cX6_goes 16 = .ok (.if_icmp .ge 64, 3) := by decide +kernel
theorem dX6_goes_19 : decode cX6_goes 19 = .ok (.aload_n 0, 1) := by decide +kernel
theorem dX6_goes_20 : decode cX6_goes 20 = .ok (.iconst 0, 1) := by decide +kernel
theorem dX6_goes_21 : decode cX6_goes 21 = .ok (.aload_n 0, 1) := by decide +kernel
theorem dX6_goes_22 : decode cX6_goes 22 = .ok (.getfield 16, 3) := by decide +kernel
theorem dX6_goes_25 : decode cX6_goes 25 = .ok (.iload_n 1, 1) := by decide +kernel
theorem dX6_goes_26 : decode cX6_goes 26 = .ok (.iaload, 1) := by decide +kernel
theorem dX6_goes_27 : decode cX6_goes 27 = .ok (.invokevirtual 78, 3) := by decide +kernel
theorem dX6_goes_30 : decode cX6_goes 30 = .ok (.ifCond .ne 5, 3) := by decide +kernel
theorem dX6_goes_33 : decode cX6_goes 33 = .ok (.iload_n 1, 1) := by decide +kernel
theorem dX6_goes_34 : decode cX6_goes 34 = .ok (.ireturn, 1) := by decide +kernel
theorem dX6_goes_35 : decode cX6_goes 35 = .ok (.iconst 0, 1) := by decide +kernel
theorem dX6_goes_36 : decode cX6_goes 36 = .ok (.istore_n 2, 1) := by decide +kernel
theorem dX6_goes_37 : decode cX6_goes 37 = .ok (.iload_n 2, 1) := by decide +kernel
theorem dX6_goes_38 : decode cX6_goes 38 = .ok (.aload_n 0, 1) := by decide +kernel
theorem dX6_goes_39 : decode cX6_goes 39 = .ok (.getfield 48, 3) := by decide +kernel
theorem dX6_goes_42 : decode cX6_goes 42 = .ok (.if_icmp .ge 32, 3) := by decide +kernel
theorem dX6_goes_45 : decode cX6_goes 45 = .ok (.aload_n 0, 1) := by decide +kernel
theorem dX6_goes_46 : decode cX6_goes 46 = .ok (.getfield 19, 3) := by decide +kernel
theorem dX6_goes_49 : decode cX6_goes 49 = .ok (.iload_n 2, 1) := by decide +kernel
theorem dX6_goes_50 : decode cX6_goes 50 = .ok (.aload_n 0, 1) := by decide +kernel
theorem dX6_goes_51 : decode cX6_goes 51 = .ok (.aload_n 0, 1) := by decide +kernel
theorem dX6_goes_52 : decode cX6_goes 52 = .ok (.getfield 19, 3) := by decide +kernel
theorem dX6_goes_55 : decode cX6_goes 55 = .ok (.iload_n 2, 1) := by decide +kernel
theorem dX6_goes_56 : decode cX6_goes 56 = .ok (.iaload, 1) := by decide +kernel
theorem dX6_goes_57 : decode cX6_goes 57 = .ok (.aload_n 0, 1) := by decide +kernel
theorem dX6_goes_58 : decode cX6_goes 58 = .ok (.getfield 16, 3) := by decide +kernel
theorem dX6_goes_61 : decode cX6_goes 61 = .ok (.iload_n 1, 1) := by decide +kernel
theorem dX6_goes_62 : decode cX6_goes 62 = .ok (.iaload, 1) := by decide +kernel
theorem dX6_goes_63 : decode cX6_goes 63 = .ok (.iload_n 2, 1) := by decide +kernel
theorem dX6_goes_64 : decode cX6_goes 64 = .ok (.invokevirtual 72, 3) := by decide +kernel
theorem dX6_goes_67 : decode cX6_goes 67 = .ok (.iastore, 1) := by decide +kernel
theorem dX6_goes_68 : decode cX6_goes 68 = .ok (.iinc 2 1, 3) := by decide +kernel
theorem dX6_goes_71 : decode cX6_goes 71 = .ok (.goto (-34), 3) := by decide +kernel
theorem dX6_goes_74 : decode cX6_goes 74 = .ok (.iinc 1 1, 3) := by decide +kernel
theorem dX6_goes_77 : decode cX6_goes 77 = .ok (.goto (-66), 3) := by decide +kernel
theorem dX6_goes_80 : decode cX6_goes 80 = .ok (.aload_n 0, 1) := by decide +kernel
theorem dX6_goes_81 : decode cX6_goes 81 = .ok (.getfield 154, 3) := by decide +kernel
theorem dX6_goes_84 : decode cX6_goes 84 = .ok (.ireturn, 1) := by decide +kernel
theorem dX6_goBesides_0 : decode cX6_goBesides 0 = .ok (.iconst 1, 1) := by decide +kernel
theorem dX6_goBesides_1 : decode cX6_goBesides 1 = .ok (.istore_n 2, 1) := by decide +kernel
theorem dX6_goBesides_2 : decode cX6_goBesides 2 = .ok (.iload_n 2, 1) := by decide +kernel
theorem dX6_goBesides_3 : decode cX6_goBesides 3 = .ok (.ifCond .eq 94, 3) := by decide +kernel
theorem dX6_goBesides_6 : decode cX6_goBesides 6 = .ok (.iconst 0, 1) := by decide +kernel
theorem dX6_goBesides_7 : decode cX6_goBesides 7 = .ok (.istore_n 2, 1) := by decide +kernel
theorem dX6_goBesides_8 : decode cX6_goBesides 8 = .ok (.iconst 0, 1) := by decide +kernel
theorem dX6_goBesides_9 : decode cX6_goBesides 9 = .ok (.istore_n 3, 1) := by decide +kernel
theorem dX6_goBesides_10 : decode cX6_goBesides 10 = .ok (.iload_n 3, 1) := by decide +kernel
theorem dX6_goBesides_11 : decode cX6_goBesides 11 = .ok (.iload_n 1, 1) := by decide +kernel
theorem dX6_goBesides_12 : decode cX6_goBesides 12 = .ok (.if_icmp .ge 82, 3) := by decide +kernel
theorem dX6_goBesides_15 : decode cX6_goBesides 15 = .ok (.iconst 0, 1) := by decide +kernel
theorem dX6_goBesides_16 : decode cX6_goBesides 16 = .ok (.istore 4, 2) := by decide +kernel
theorem dX6_goBesides_18 : decode cX6_goBesides 18 = .ok (.iload 4, 2) := by decide +kernel
theorem dX6_goBesides_20 : decode cX6_goBesides 20 = .ok (.aload_n 0, 1) := by decide +kernel
theorem dX6_goBesides_21 : decode cX6_goBesides 21 = .ok (.getfield 55, 3) := by decide +kernel
theorem dX6_goBesides_24 : decode cX6_goBesides 24 = .ok (.if_icmp .ge 64, 3) := by decide +kernel
theorem dX6_goBesides_27 : decode cX6_goBesides 27 = .ok (.aload_n 0, 1) := by decide +kernel
theorem dX6_goBesides_28 : decode cX6_goBesides 28 = .ok (.getfield 28, 3) := by decide +kernel
theorem dX6_goBesides_31 : decode cX6_goBesides 31 = .ok (.bipush 8, 2) := by decide +kernel
theorem dX6_goBesides_33 : decode cX6_goBesides 33 = .ok (.iload_n 3, 1) := by decide +kernel
theorem dX6_goBesides_34 : decode cX6_goBesides 34 = .ok (.imul, 1) := by decide +kernel
theorem dX6_goBesides_35 : decode cX6_goBesides 35 = .ok (.iload 4, 2) := by decide +kernel
theorem dX6_goBesides_37 : decode cX6_goBesides 37 = .ok (.iadd, 1) := by decide +kernel
theorem dX6_goBesides_38 : decode cX6_goBesides 38 = .ok (.iaload, 1) := by decide +kernel
theorem dX6_goBesides_39 : decode cX6_goBesides 39 = .ok (.istore 5, 2) := by decide +kernel
theorem dX6_goBesides_41 : decode cX6_goBesides 41 = .ok (.iload 5, 2) := by decide +kernel
theorem dX6_goBesides_43 : decode cX6_goBesides 43 = .ok (.iconst (-1), 1) := by decide +kernel
theorem dX6_goBesides_44 : decode cX6_goBesides 44 = .ok (.if_icmp .eq 38, 3) := by decide +kernel
theorem dX6_goBesides_47 : decode cX6_goBesides 47 = .ok (.aload_n 0, 1) := by decide +kernel
theorem dX6_goBesides_48 : decode cX6_goBesides 48 = .ok (.getfield 35, 3) := by decide +kernel
theorem dX6_goBesides_51 : decode cX6_goBesides 51 = .ok (.iload_n 3, 1) := by decide +kernel
theorem dX6_goBesides_52 : decode cX6_goBesides 52 = .ok (.iaload, 1) := by decide +kernel
theorem dX6_goBesides_53 : decode cX6_goBesides 53 = .ok (.iconst 1, 1) := by decide +kernel
theorem dX6_goBesides_54 : decode cX6_goBesides 54 = .ok (.iadd, 1) := by decide +kernel
theorem dX6_goBesides_55 : decode cX6_goBesides 55 = .ok (.aload_n 0, 1) := by decide +kernel
theorem dX6_goBesides_56 : decode cX6_goBesides 56 = .ok (.getfield 35, 3) := by decide +kernel
theorem dX6_goBesides_59 : decode cX6_goBesides 59 = .ok (.iload 5, 2) := by decide +kernel
theorem dX6_goBesides_61 : decode cX6_goBesides 61 = .ok (.iaload, 1) := by decide +kernel
theorem dX6_goBesides_62 : decode cX6_goBesides 62 = .ok (.if_icmp .ge 20, 3) := by decide +kernel
theorem dX6_goBesides_65 : decode cX6_goBesides 65 = .ok (.aload_n 0, 1) := by decide +kernel
theorem dX6_goBesides_66 : decode cX6_goBesides 66 = .ok (.getfield 35, 3) := by decide +kernel
theorem dX6_goBesides_69 : decode cX6_goBesides 69 = .ok (.iload 5, 2) := by decide +kernel
theorem dX6_goBesides_71 : decode cX6_goBesides 71 = .ok (.aload_n 0, 1) := by decide +kernel
theorem dX6_goBesides_72 : decode cX6_goBesides 72 = .ok (.getfield 35, 3) := by decide +kernel
theorem dX6_goBesides_75 : decode cX6_goBesides 75 = .ok (.iload_n 3, 1) := by decide +kernel
theorem dX6_goBesides_76 : decode cX6_goBesides 76 = .ok (.iaload, 1) := by decide +kernel
theorem dX6_goBesides_77 : decode cX6_goBesides 77 = .ok (.iconst 1, 1) := by decide +kernel
theorem dX6_goBesides_78 : decode cX6_goBesides 78 = .ok (.iadd, 1) := by decide +kernel
theorem dX6_goBesides_79 : decode cX6_goBesides 79 = .ok (.iastore, 1) := by decide +kernel
theorem dX6_goBesides_80 : decode cX6_goBesides 80 = .ok (.iconst 1, 1) := by decide +kernel
theorem dX6_goBesides_81 : decode cX6_goBesides 81 = .ok (.istore_n 2, 1) := by decide +kernel
theorem dX6_goBesides_82 : decode cX6_goBesides 82 = .ok (.iinc 4 1, 3) := by decide +kernel
theorem dX6_goBesides_85 : decode cX6_goBesides 85 = .ok (.goto (-67), 3) := by decide +kernel
theorem dX6_goBesides_88 : decode cX6_goBesides 88 = .ok (.iinc 3 1, 3) := by decide +kernel
theorem dX6_goBesides_91 : decode cX6_goBesides 91 = .ok (.goto (-81), 3) := by decide +kernel
theorem dX6_goBesides_94 : decode cX6_goBesides 94 = .ok (.goto (-92), 3) := by decide +kernel
theorem dX6_goBesides_97 : decode cX6_goBesides 97 = .ok (.return_, 1) := by decide +kernel
theorem dX6_goOn_0 : decode cX6_goOn 0 = .ok (.iconst 0, 1) := by decide +kernel
theorem dX6_goOn_1 : decode cX6_goOn 1 = .ok (.istore_n 3, 1) := by decide +kernel
theorem dX6_goOn_2 : decode cX6_goOn 2 = .ok (.iload_n 3, 1) := by decide +kernel
theorem dX6_goOn_3 : decode cX6_goOn 3 = .ok (.iload_n 1, 1) := by decide +kernel
theorem dX6_goOn_4 : decode cX6_goOn 4 = .ok (.if_icmp .ge 23, 3) := by decide +kernel
theorem dX6_goOn_7 : decode cX6_goOn 7 = .ok (.aload_n 0, 1) := by decide +kernel
theorem dX6_goOn_8 : decode cX6_goOn 8 = .ok (.getfield 38, 3) := by decide +kernel
theorem dX6_goOn_11 : decode cX6_goOn 11 = .ok (.iload_n 3, 1) := by decide +kernel
theorem dX6_goOn_12 : decode cX6_goOn 12 = .ok (.aload_n 0, 1) := by decide +kernel
theorem dX6_goOn_13 : decode cX6_goOn 13 = .ok (.getfield 35, 3) := by decide +kernel
theorem dX6_goOn_16 : decode cX6_goOn 16 = .ok (.iload_n 3, 1) := by decide +kernel
theorem dX6_goOn_17 : decode cX6_goOn 17 = .ok (.iaload, 1) := by decide +kernel
theorem dX6_goOn_18 : decode cX6_goOn 18 = .ok (.iconst 1, 1) := by decide +kernel
theorem dX6_goOn_19 : decode cX6_goOn 19 = .ok (.iadd, 1) := by decide +kernel
theorem dX6_goOn_20 : decode cX6_goOn 20 = .ok (.iastore, 1) := by decide +kernel
theorem dX6_goOn_21 : decode cX6_goOn 21 = .ok (.iinc 3 1, 3) := by decide +kernel
theorem dX6_goOn_24 : decode cX6_goOn 24 = .ok (.goto (-22), 3) := by decide +kernel
theorem dX6_goOn_27 : decode cX6_goOn 27 = .ok (.iconst 0, 1) := by decide +kernel
theorem dX6_goOn_28 : decode cX6_goOn 28 = .ok (.istore_n 3, 1) := by decide +kernel
theorem dX6_goOn_29 : decode cX6_goOn 29 = .ok (.iload_n 3, 1) := by decide +kernel
theorem dX6_goOn_30 : decode cX6_goOn 30 = .ok (.iload_n 1, 1) := by decide +kernel
theorem dX6_goOn_31 : decode cX6_goOn 31 = .ok (.if_icmp .ge 57, 3) := by decide +kernel
theorem dX6_goOn_34 : decode cX6_goOn 34 = .ok (.aload_n 0, 1) := by decide +kernel
theorem dX6_goOn_35 : decode cX6_goOn 35 = .ok (.getfield 28, 3) := by decide +kernel
theorem dX6_goOn_38 : decode cX6_goOn 38 = .ok (.bipush 8, 2) := by decide +kernel
theorem dX6_goOn_40 : decode cX6_goOn 40 = .ok (.iload_n 3, 1) := by decide +kernel
theorem dX6_goOn_41 : decode cX6_goOn 41 = .ok (.imul, 1) := by decide +kernel
theorem dX6_goOn_42 : decode cX6_goOn 42 = .ok (.iload_n 2, 1) := by decide +kernel
theorem dX6_goOn_43 : decode cX6_goOn 43 = .ok (.iadd, 1) := by decide +kernel
theorem dX6_goOn_44 : decode cX6_goOn 44 = .ok (.iaload, 1) := by decide +kernel
theorem dX6_goOn_45 : decode cX6_goOn 45 = .ok (.istore 4, 2) := by decide +kernel
theorem dX6_goOn_47 : decode cX6_goOn 47 = .ok (.iload 4, 2) := by decide +kernel
theorem dX6_goOn_49 : decode cX6_goOn 49 = .ok (.iconst (-1), 1) := by decide +kernel
theorem dX6_goOn_50 : decode cX6_goOn 50 = .ok (.if_icmp .eq 32, 3) := by decide +kernel
theorem dX6_goOn_53 : decode cX6_goOn 53 = .ok (.aload_n 0, 1) := by decide +kernel
theorem dX6_goOn_54 : decode cX6_goOn 54 = .ok (.getfield 35, 3) := by decide +kernel
theorem dX6_goOn_57 : decode cX6_goOn 57 = .ok (.iload_n 3, 1) := by decide +kernel
theorem dX6_goOn_58 : decode cX6_goOn 58 = .ok (.iaload, 1) := by decide +kernel
theorem dX6_goOn_59 : decode cX6_goOn 59 = .ok (.aload_n 0, 1) := by decide +kernel
theorem dX6_goOn_60 : decode cX6_goOn 60 = .ok (.getfield 38, 3) := by decide +kernel
theorem dX6_goOn_63 : decode cX6_goOn 63 = .ok (.iload 4, 2) := by decide +kernel
theorem dX6_goOn_65 : decode cX6_goOn 65 = .ok (.iaload, 1) := by decide +kernel
theorem dX6_goOn_66 : decode cX6_goOn 66 = .ok (.if_icmp .ge 16, 3) := by decide +kernel
theorem dX6_goOn_69 : decode cX6_goOn 69 = .ok (.aload_n 0, 1) := by decide +kernel
theorem dX6_goOn_70 : decode cX6_goOn 70 = .ok (.getfield 38, 3) := by decide +kernel
theorem dX6_goOn_73 : decode cX6_goOn 73 = .ok (.iload 4, 2) := by decide +kernel
theorem dX6_goOn_75 : decode cX6_goOn 75 = .ok (.aload_n 0, 1) := by decide +kernel
theorem dX6_goOn_76 : decode cX6_goOn 76 = .ok (.getfield 35, 3) := by decide +kernel
theorem dX6_goOn_79 : decode cX6_goOn 79 = .ok (.iload_n 3, 1) := by decide +kernel
theorem dX6_goOn_80 : decode cX6_goOn 80 = .ok (.iaload, 1) := by decide +kernel
theorem dX6_goOn_81 : decode cX6_goOn 81 = .ok (.iastore, 1) := by decide +kernel
theorem dX6_goOn_82 : decode cX6_goOn 82 = .ok (.iinc 3 1, 3) := by decide +kernel
theorem dX6_goOn_85 : decode cX6_goOn 85 = .ok (.goto (-56), 3) := by decide +kernel
theorem dX6_goOn_88 : decode cX6_goOn 88 = .ok (.iconst 0, 1) := by decide +kernel
theorem dX6_goOn_89 : decode cX6_goOn 89 = .ok (.istore_n 3, 1) := by decide +kernel
theorem dX6_goOn_90 : decode cX6_goOn 90 = .ok (.iload_n 3, 1) := by decide +kernel
theorem dX6_goOn_91 : decode cX6_goOn 91 = .ok (.iload_n 1, 1) := by decide +kernel
theorem dX6_goOn_92 : decode cX6_goOn 92 = .ok (.if_icmp .ge 21, 3) := by decide +kernel
theorem dX6_goOn_95 : decode cX6_goOn 95 = .ok (.aload_n 0, 1) := by decide +kernel
theorem dX6_goOn_96 : decode cX6_goOn 96 = .ok (.getfield 35, 3) := by decide +kernel
theorem dX6_goOn_99 : decode cX6_goOn 99 = .ok (.iload_n 3, 1) := by decide +kernel
theorem dX6_goOn_100 : decode cX6_goOn 100 = .ok (.aload_n 0, 1) := by decide +kernel
theorem dX6_goOn_101 : decode cX6_goOn 101 = .ok (.getfield 38, 3) := by decide +kernel
theorem dX6_goOn_104 : decode cX6_goOn 104 = .ok (.iload_n 3, 1) := by decide +kernel
theorem dX6_goOn_105 : decode cX6_goOn 105 = .ok (.iaload, 1) := by decide +kernel
theorem dX6_goOn_106 : decode cX6_goOn 106 = .ok (.iastore, 1) := by decide +kernel
theorem dX6_goOn_107 : decode cX6_goOn 107 = .ok (.iinc 3 1, 3) := by decide +kernel
theorem dX6_goOn_110 : decode cX6_goOn 110 = .ok (.goto (-20), 3) := by decide +kernel
theorem dX6_goOn_113 : decode cX6_goOn 113 = .ok (.return_, 1) := by decide +kernel
theorem dX6_cost_0 : decode cX6_cost 0 = .ok (.aload_n 0, 1) := by decide +kernel
theorem dX6_cost_1 : decode cX6_cost 1 = .ok (.iconst 0, 1) := by decide +kernel
theorem dX6_cost_2 : decode cX6_cost 2 = .ok (.putfield 44, 3) := by decide +kernel
theorem dX6_cost_5 : decode cX6_cost 5 = .ok (.aload_n 0, 1) := by decide +kernel
theorem dX6_cost_6 : decode cX6_cost 6 = .ok (.invokevirtual 91, 3) := by decide +kernel
theorem dX6_cost_9 : decode cX6_cost 9 = .ok (.istore_n 1, 1) := by decide +kernel
theorem dX6_cost_10 : decode cX6_cost 10 = .ok (.iconst 0, 1) := by decide +kernel
theorem dX6_cost_11 : decode cX6_cost 11 = .ok (.istore_n 2, 1) := by decide +kernel
theorem dX6_cost_12 : decode cX6_cost 12 = .ok (.iload_n 2, 1) := by decide +kernel
theorem dX6_cost_13 : decode cX6_cost 13 = .ok (.iload_n 1, 1) := by decide +kernel
theorem dX6_cost_14 : decode cX6_cost 14 = .ok (.if_icmp .ge 26, 3) := by decide +kernel
theorem dX6_cost_17 : decode cX6_cost 17 = .ok (.aload_n 0, 1) := by decide +kernel
theorem dX6_cost_18 : decode cX6_cost 18 = .ok (.getfield 35, 3) := by decide +kernel
theorem dX6_cost_21 : decode cX6_cost 21 = .ok (.iload_n 2, 1) := by decide +kernel
theorem dX6_cost_22 : decode cX6_cost 22 = .ok (.iload_n 2, 1) := by decide +kernel
theorem dX6_cost_23 : decode cX6_cost 23 = .ok (.ifCond .ne 7, 3) := by decide +kernel
theorem dX6_cost_26 : decode cX6_cost 26 = .ok (.iconst 0, 1) := by decide +kernel
theorem dX6_cost_27 : decode cX6_cost 27 = .ok (.goto 6, 3) := by decide +kernel
theorem dX6_cost_30 : decode cX6_cost 30 = .ok (.sipush 1000, 3) := by decide +kernel
theorem dX6_cost_33 : decode cX6_cost 33 = .ok (.iastore, 1) := by decide +kernel
theorem dX6_cost_34 : decode cX6_cost 34 = .ok (.iinc 2 1, 3) := by decide +kernel
theorem dX6_cost_37 : decode cX6_cost 37 = .ok (.goto (-25), 3) := by decide +kernel
theorem dX6_cost_40 : decode cX6_cost 40 = .ok (.iconst 0, 1) := by decide +kernel
theorem dX6_cost_41 : decode cX6_cost 41 = .ok (.istore_n 2, 1) := by decide +kernel
theorem dX6_cost_42 : decode cX6_cost 42 = .ok (.iload_n 2, 1) := by decide +kernel
theorem dX6_cost_43 : decode cX6_cost 43 = .ok (.aload_n 0, 1) := by decide +kernel
theorem dX6_cost_44 : decode cX6_cost 44 = .ok (.getfield 154, 3) := by decide +kernel
theorem dX6_cost_47 : decode cX6_cost 47 = .ok (.if_icmp .ge 30, 3) := by decide +kernel
theorem dX6_cost_50 : decode cX6_cost 50 = .ok (.iload_n 1, 1) := by decide +kernel
theorem dX6_cost_51 : decode cX6_cost 51 = .ok (.iconst (-1), 1) := by decide +kernel
theorem dX6_cost_52 : decode cX6_cost 52 = .ok (.if_icmp .eq 25, 3) := by decide +kernel
theorem dX6_cost_55 : decode cX6_cost 55 = .ok (.aload_n 0, 1) := by decide +kernel
theorem dX6_cost_56 : decode cX6_cost 56 = .ok (.iload_n 1, 1) := by decide +kernel
theorem dX6_cost_57 : decode cX6_cost 57 = .ok (.invokevirtual 157, 3) := by decide +kernel
theorem dX6_cost_60 : decode cX6_cost 60 = .ok (.aload_n 0, 1) := by decide +kernel
theorem dX6_cost_61 : decode cX6_cost 61 = .ok (.iload_n 1, 1) := by decide +kernel
theorem dX6_cost_62 : decode cX6_cost 62 = .ok (.aload_n 0, 1) := by decide +kernel
theorem dX6_cost_63 : decode cX6_cost 63 = .ok (.getfield 16, 3) := by decide +kernel
theorem dX6_cost_66 : decode cX6_cost 66 = .ok (.iload_n 2, 1) := by decide +kernel
theorem dX6_cost_67 : decode cX6_cost 67 = .ok (.iaload, 1) := by decide +kernel
theorem dX6_cost_68 : decode cX6_cost 68 = .ok (.invokevirtual 160, 3) := by decide +kernel
theorem dX6_cost_71 : decode cX6_cost 71 = .ok (.iinc 2 1, 3) := by decide +kernel
theorem dX6_cost_74 : decode cX6_cost 74 = .ok (.goto (-32), 3) := by decide +kernel
theorem dX6_cost_77 : decode cX6_cost 77 = .ok (.iload_n 1, 1) := by decide +kernel
theorem dX6_cost_78 : decode cX6_cost 78 = .ok (.iconst (-1), 1) := by decide +kernel
theorem dX6_cost_79 : decode cX6_cost 79 = .ok (.if_icmp .ne 7, 3) := by decide +kernel
theorem dX6_cost_82 : decode cX6_cost 82 = .ok (.iconst (-1), 1) := by decide +kernel
theorem dX6_cost_83 : decode cX6_cost 83 = .ok (.goto 6, 3) := by decide +kernel
theorem dX6_cost_86 : decode cX6_cost 86 = .ok (.sipush 1000, 3) := by decide +kernel
theorem dX6_cost_89 : decode cX6_cost 89 = .ok (.istore_n 2, 1) := by decide +kernel
theorem dX6_cost_90 : decode cX6_cost 90 = .ok (.iconst 0, 1) := by decide +kernel
theorem dX6_cost_91 : decode cX6_cost 91 = .ok (.istore_n 3, 1) := by decide +kernel
theorem dX6_cost_92 : decode cX6_cost 92 = .ok (.iload_n 3, 1) := by decide +kernel
theorem dX6_cost_93 : decode cX6_cost 93 = .ok (.iload_n 1, 1) := by decide +kernel
theorem dX6_cost_94 : decode cX6_cost 94 = .ok (.if_icmp .ge 30, 3) := by decide +kernel
theorem dX6_cost_97 : decode cX6_cost 97 = .ok (.aload_n 0, 1) := by decide +kernel
theorem dX6_cost_98 : decode cX6_cost 98 = .ok (.getfield 35, 3) := by decide +kernel
theorem dX6_cost_101 : decode cX6_cost 101 = .ok (.iload_n 3, 1) := by decide +kernel
theorem dX6_cost_102 : decode cX6_cost 102 = .ok (.iaload, 1) := by decide +kernel
theorem dX6_cost_103 : decode cX6_cost 103 = .ok (.iload_n 2, 1) := by decide +kernel
theorem dX6_cost_104 : decode cX6_cost 104 = .ok (.if_icmp .ge 12, 3) := by decide +kernel
theorem dX6_cost_107 : decode cX6_cost 107 = .ok (.aload_n 0, 1) := by decide +kernel
theorem dX6_cost_108 : decode cX6_cost 108 = .ok (.getfield 35, 3) := by decide +kernel
theorem dX6_cost_111 : decode cX6_cost 111 = .ok (.iload_n 3, 1) := by decide +kernel
theorem dX6_cost_112 : decode cX6_cost 112 = .ok (.iaload, 1) := by decide +kernel
theorem dX6_cost_113 : decode cX6_cost 113 = .ok (.goto 4, 3) := by decide +kernel
theorem dX6_cost_116 : decode cX6_cost 116 = .ok (.iload_n 2, 1) := by decide +kernel
theorem dX6_cost_117 : decode cX6_cost 117 = .ok (.istore_n 2, 1) := by decide +kernel
theorem dX6_cost_118 : decode cX6_cost 118 = .ok (.iinc 3 1, 3) := by decide +kernel
theorem dX6_cost_121 : decode cX6_cost 121 = .ok (.goto (-29), 3) := by decide +kernel
theorem dX6_cost_124 : decode cX6_cost 124 = .ok (.iload_n 2, 1) := by decide +kernel
theorem dX6_cost_125 : decode cX6_cost 125 = .ok (.ireturn, 1) := by decide +kernel
theorem dJ9_max_7cf53_0 : decode cJ9_max_7cf53 0 = .ok (.iload_n 0, 1) := by decide +kernel
theorem dJ9_max_7cf53_1 : decode cJ9_max_7cf53 1 = .ok (.iload_n 1, 1) := by decide +kernel
theorem dJ9_max_7cf53_2 : decode cJ9_max_7cf53 2 = .ok (.if_icmp .lt 7, 3) := by decide +kernel
theorem dJ9_max_7cf53_5 : decode cJ9_max_7cf53 5 = .ok (.iload_n 0, 1) := by decide +kernel
theorem dJ9_max_7cf53_6 : decode cJ9_max_7cf53 6 = .ok (.goto 4, 3) := by decide +kernel
theorem dJ9_max_7cf53_9 : decode cJ9_max_7cf53 9 = .ok (.iload_n 1, 1) := by decide +kernel
theorem dJ9_max_7cf53_10 : decode cJ9_max_7cf53 10 = .ok (.ireturn, 1) := by decide +kernel
theorem dJ9_min_7cf53_0 : decode cJ9_min_7cf53 0 = .ok (.iload_n 0, 1) := by decide +kernel
theorem dJ9_min_7cf53_1 : decode cJ9_min_7cf53 1 = .ok (.iload_n 1, 1) := by decide +kernel
theorem dJ9_min_7cf53_2 : decode cJ9_min_7cf53 2 = .ok (.if_icmp .gt 7, 3) := by decide +kernel
theorem dJ9_min_7cf53_5 : decode cJ9_min_7cf53 5 = .ok (.iload_n 0, 1) := by decide +kernel
theorem dJ9_min_7cf53_6 : decode cJ9_min_7cf53 6 = .ok (.goto 4, 3) := by decide +kernel
theorem dJ9_min_7cf53_9 : decode cJ9_min_7cf53 9 = .ok (.iload_n 1, 1) := by decide +kernel
theorem dJ9_min_7cf53_10 : decode cJ9_min_7cf53 10 = .ok (.ireturn, 1) := by decide +kernel
theorem dJ7_fill_53178_0 : decode cJ7_fill_53178 0 = .ok (.iconst 0, 1) := by decide +kernel
theorem dJ7_fill_53178_1 : decode cJ7_fill_53178 1 = .ok (.istore_n 2, 1) := by decide +kernel
theorem dJ7_fill_53178_2 : decode cJ7_fill_53178 2 = .ok (.aload_n 0, 1) := by decide +kernel
theorem dJ7_fill_53178_3 : decode cJ7_fill_53178 3 = .ok (.arraylength, 1) := by decide +kernel
theorem dJ7_fill_53178_4 : decode cJ7_fill_53178 4 = .ok (.istore_n 3, 1) := by decide +kernel
theorem dJ7_fill_53178_5 : decode cJ7_fill_53178 5 = .ok (.iload_n 2, 1) := by decide +kernel
theorem dJ7_fill_53178_6 : decode cJ7_fill_53178 6 = .ok (.iload_n 3, 1) := by decide +kernel
theorem dJ7_fill_53178_7 : decode cJ7_fill_53178 7 = .ok (.if_icmp .ge 13, 3) := by decide +kernel
theorem dJ7_fill_53178_10 : decode cJ7_fill_53178 10 = .ok (.aload_n 0, 1) := by decide +kernel
theorem dJ7_fill_53178_11 : decode cJ7_fill_53178 11 = .ok (.iload_n 2, 1) := by decide +kernel
theorem dJ7_fill_53178_12 : decode cJ7_fill_53178 12 = .ok (.iload_n 1, 1) := by decide +kernel
theorem dJ7_fill_53178_13 : decode cJ7_fill_53178 13 = .ok (.iastore, 1) := by decide +kernel
theorem dJ7_fill_53178_14 : decode cJ7_fill_53178 14 = .ok (.iinc 2 1, 3) := by decide +kernel
theorem dJ7_fill_53178_17 : decode cJ7_fill_53178 17 = .ok (.goto (-12), 3) := by decide +kernel
theorem dJ7_fill_53178_20 : decode cJ7_fill_53178 20 = .ok (.return_, 1) := by decide +kernel
theorem dL_place_0 : decode cL_place 0 = .ok (.aload_n 2, 1) := by decide +kernel
theorem dL_place_1 : decode cL_place 1 = .ok (.iconst 0, 1) := by decide +kernel
theorem dL_place_2 : decode cL_place 2 = .ok (.aload_n 0, 1) := by decide +kernel
theorem dL_place_3 : decode cL_place 3 = .ok (.iload_n 1, 1) := by decide +kernel
theorem dL_place_4 : decode cL_place 4 = .ok (.invokevirtual 7, 3) := by decide +kernel
theorem dL_place_7 : decode cL_place 7 = .ok (.i2l, 1) := by decide +kernel
theorem dL_place_8 : decode cL_place 8 = .ok (.lastore, 1) := by decide +kernel
theorem dL_place_9 : decode cL_place 9 = .ok (.goto 9, 3) := by decide +kernel
theorem dL_place_12 : decode cL_place 12 = .ok (.astore_n 3, 1) := by decide +kernel
theorem dL_place_13 : decode cL_place 13 = .ok (.iconst 1, 1) := by decide +kernel
theorem dL_place_14 : decode cL_place 14 = .ok (.ireturn, 1) := by decide +kernel
theorem dL_place_15 : decode cL_place 15 = .ok (.astore_n 3, 1) := by decide +kernel
theorem dL_place_16 : decode cL_place 16 = .ok (.iconst 2, 1) := by decide +kernel
theorem dL_place_17 : decode cL_place 17 = .ok (.ireturn, 1) := by decide +kernel
theorem dL_place_18 : decode cL_place 18 = .ok (.iconst 0, 1) := by decide +kernel
theorem dL_place_19 : decode cL_place 19 = .ok (.ireturn, 1) := by decide +kernel
theorem dL_firing_0 : decode cL_firing 0 = .ok (.aload_n 1, 1) := by decide +kernel
theorem dL_firing_1 : decode cL_firing 1 = .ok (.iconst 0, 1) := by decide +kernel
theorem dL_firing_2 : decode cL_firing 2 = .ok (.aload_n 0, 1) := by decide +kernel
theorem dL_firing_3 : decode cL_firing 3 = .ok (.invokevirtual 17, 3) := by decide +kernel
theorem dL_firing_6 : decode cL_firing 6 = .ok (.i2l, 1) := by decide +kernel
theorem dL_firing_7 : decode cL_firing 7 = .ok (.lastore, 1) := by decide +kernel
theorem dL_firing_8 : decode cL_firing 8 = .ok (.goto 6, 3) := by decide +kernel
theorem dL_firing_11 : decode cL_firing 11 = .ok (.astore_n 2, 1) := by decide +kernel
theorem dL_firing_12 : decode cL_firing 12 = .ok (.iconst 1, 1) := by decide +kernel
theorem dL_firing_13 : decode cL_firing 13 = .ok (.ireturn, 1) := by decide +kernel
theorem dL_firing_14 : decode cL_firing 14 = .ok (.iconst 0, 1) := by decide +kernel
theorem dL_firing_15 : decode cL_firing 15 = .ok (.ireturn, 1) := by decide +kernel
theorem dL_arc_0 : decode cL_arc 0 = .ok (.aload 5, 2) := by decide +kernel
theorem dL_arc_2 : decode cL_arc 2 = .ok (.iconst 0, 1) := by decide +kernel
theorem dL_arc_3 : decode cL_arc 3 = .ok (.aload_n 0, 1) := by decide +kernel
theorem dL_arc_4 : decode cL_arc 4 = .ok (.iload_n 1, 1) := by decide +kernel
theorem dL_arc_5 : decode cL_arc 5 = .ok (.iload_n 2, 1) := by decide +kernel
theorem dL_arc_6 : decode cL_arc 6 = .ok (.iload_n 3, 1) := by decide +kernel
theorem dL_arc_7 : decode cL_arc 7 = .ok (.iload 4, 2) := by decide +kernel
theorem dL_arc_9 : decode cL_arc 9 = .ok (.invokevirtual 21, 3) := by decide +kernel
theorem dL_arc_12 : decode cL_arc 12 = .ok (.i2l, 1) := by decide +kernel
theorem dL_arc_13 : decode cL_arc 13 = .ok (.lastore, 1) := by decide +kernel
theorem dL_arc_14 : decode cL_arc 14 = .ok (.goto 11, 3) := by decide +kernel
theorem dL_arc_17 : decode cL_arc 17 = .ok (.astore 6, 2) := by decide +kernel
theorem dL_arc_19 : decode cL_arc 19 = .ok (.iconst 1, 1) := by decide +kernel
theorem dL_arc_20 : decode cL_arc 20 = .ok (.ireturn, 1) := by decide +kernel
theorem dL_arc_21 : decode cL_arc 21 = .ok (.astore 6, 2) := by decide +kernel
theorem dL_arc_23 : decode cL_arc 23 = .ok (.iconst 2, 1) := by decide +kernel
theorem dL_arc_24 : decode cL_arc 24 = .ok (.ireturn, 1) := by decide +kernel
theorem dL_arc_25 : decode cL_arc 25 = .ok (.iconst 0, 1) := by decide +kernel
theorem dL_arc_26 : decode cL_arc 26 = .ok (.ireturn, 1) := by decide +kernel
theorem dL_tokens_0 : decode cL_tokens 0 = .ok (.aload_n 2, 1) := by decide +kernel
theorem dL_tokens_1 : decode cL_tokens 1 = .ok (.iconst 0, 1) := by decide +kernel
theorem dL_tokens_2 : decode cL_tokens 2 = .ok (.aload_n 0, 1) := by decide +kernel
theorem dL_tokens_3 : decode cL_tokens 3 = .ok (.iload_n 1, 1) := by decide +kernel
theorem dL_tokens_4 : decode cL_tokens 4 = .ok (.invokevirtual 27, 3) := by decide +kernel
theorem dL_tokens_7 : decode cL_tokens 7 = .ok (.i2l, 1) := by decide +kernel
theorem dL_tokens_8 : decode cL_tokens 8 = .ok (.lastore, 1) := by decide +kernel
theorem dL_tokens_9 : decode cL_tokens 9 = .ok (.goto 6, 3) := by decide +kernel
theorem dL_tokens_12 : decode cL_tokens 12 = .ok (.astore_n 3, 1) := by decide +kernel
theorem dL_tokens_13 : decode cL_tokens 13 = .ok (.iconst 1, 1) := by decide +kernel
theorem dL_tokens_14 : decode cL_tokens 14 = .ok (.ireturn, 1) := by decide +kernel
theorem dL_tokens_15 : decode cL_tokens 15 = .ok (.iconst 0, 1) := by decide +kernel
theorem dL_tokens_16 : decode cL_tokens 16 = .ok (.ireturn, 1) := by decide +kernel
theorem dL_can_0 : decode cL_can 0 = .ok (.aload_n 2, 1) := by decide +kernel
theorem dL_can_1 : decode cL_can 1 = .ok (.iconst 0, 1) := by decide +kernel
theorem dL_can_2 : decode cL_can 2 = .ok (.aload_n 0, 1) := by decide +kernel
theorem dL_can_3 : decode cL_can 3 = .ok (.iload_n 1, 1) := by decide +kernel
theorem dL_can_4 : decode cL_can 4 = .ok (.invokevirtual 30, 3) := by decide +kernel
theorem dL_can_7 : decode cL_can 7 = .ok (.ifCond .eq 7, 3) := by decide +kernel
theorem dL_can_10 : decode cL_can 10 = .ok (.lconst 1, 1) := by decide +kernel
theorem dL_can_11 : decode cL_can 11 = .ok (.goto 4, 3) := by decide +kernel
theorem dL_can_14 : decode cL_can 14 = .ok (.lconst 0, 1) := by decide +kernel
theorem dL_can_15 : decode cL_can 15 = .ok (.lastore, 1) := by decide +kernel
theorem dL_can_16 : decode cL_can 16 = .ok (.goto 6, 3) := by decide +kernel
theorem dL_can_19 : decode cL_can 19 = .ok (.astore_n 3, 1) := by decide +kernel
theorem dL_can_20 : decode cL_can 20 = .ok (.iconst 1, 1) := by decide +kernel
theorem dL_can_21 : decode cL_can 21 = .ok (.ireturn, 1) := by decide +kernel
theorem dL_can_22 : decode cL_can 22 = .ok (.iconst 0, 1) := by decide +kernel
theorem dL_can_23 : decode cL_can 23 = .ok (.ireturn, 1) := by decide +kernel
theorem dL_fire_0 : decode cL_fire 0 = .ok (.aload_n 2, 1) := by decide +kernel
theorem dL_fire_1 : decode cL_fire 1 = .ok (.iconst 0, 1) := by decide +kernel
theorem dL_fire_2 : decode cL_fire 2 = .ok (.aload_n 0, 1) := by decide +kernel
theorem dL_fire_3 : decode cL_fire 3 = .ok (.iload_n 1, 1) := by decide +kernel
theorem dL_fire_4 : decode cL_fire 4 = .ok (.invokevirtual 34, 3) := by decide +kernel
theorem dL_fire_7 : decode cL_fire 7 = .ok (.i2l, 1) := by decide +kernel
theorem dL_fire_8 : decode cL_fire 8 = .ok (.lastore, 1) := by decide +kernel
theorem dL_fire_9 : decode cL_fire 9 = .ok (.goto 9, 3) := by decide +kernel
theorem dL_fire_12 : decode cL_fire 12 = .ok (.astore_n 3, 1) := by decide +kernel
theorem dL_fire_13 : decode cL_fire 13 = .ok (.iconst 1, 1) := by decide +kernel
theorem dL_fire_14 : decode cL_fire 14 = .ok (.ireturn, 1) := by decide +kernel
theorem dL_fire_15 : decode cL_fire 15 = .ok (.astore_n 3, 1) := by decide +kernel
theorem dL_fire_16 : decode cL_fire 16 = .ok (.iconst 2, 1) := by decide +kernel
theorem dL_fire_17 : decode cL_fire 17 = .ok (.ireturn, 1) := by decide +kernel
theorem dL_fire_18 : decode cL_fire 18 = .ok (.iconst 0, 1) := by decide +kernel
theorem dL_fire_19 : decode cL_fire 19 = .ok (.ireturn, 1) := by decide +kernel
theorem dL_graph_0 : decode cL_graph 0 = .ok (.aload_n 2, 1) := by decide +kernel
theorem dL_graph_1 : decode cL_graph 1 = .ok (.iconst 0, 1) := by decide +kernel
theorem dL_graph_2 : decode cL_graph 2 = .ok (.aload_n 0, 1) := by decide +kernel
theorem dL_graph_3 : decode cL_graph 3 = .ok (.iload_n 1, 1) := by decide +kernel
theorem dL_graph_4 : decode cL_graph 4 = .ok (.invokevirtual 37, 3) := by decide +kernel
theorem dL_graph_7 : decode cL_graph 7 = .ok (.i2l, 1) := by decide +kernel
theorem dL_graph_8 : decode cL_graph 8 = .ok (.lastore, 1) := by decide +kernel
theorem dL_graph_9 : decode cL_graph 9 = .ok (.goto 6, 3) := by decide +kernel
theorem dL_graph_12 : decode cL_graph 12 = .ok (.astore_n 3, 1) := by decide +kernel
theorem dL_graph_13 : decode cL_graph 13 = .ok (.iconst 1, 1) := by decide +kernel
theorem dL_graph_14 : decode cL_graph 14 = .ok (.ireturn, 1) := by decide +kernel
theorem dL_graph_15 : decode cL_graph 15 = .ok (.iconst 0, 1) := by decide +kernel
theorem dL_graph_16 : decode cL_graph 16 = .ok (.ireturn, 1) := by decide +kernel
theorem dL_marking_0 : decode cL_marking 0 = .ok (.aload_n 3, 1) := by decide +kernel
theorem dL_marking_1 : decode cL_marking 1 = .ok (.iconst 0, 1) := by decide +kernel
theorem dL_marking_2 : decode cL_marking 2 = .ok (.aload_n 0, 1) := by decide +kernel
theorem dL_marking_3 : decode cL_marking 3 = .ok (.iload_n 1, 1) := by decide +kernel
theorem dL_marking_4 : decode cL_marking 4 = .ok (.iload_n 2, 1) := by decide +kernel
theorem dL_marking_5 : decode cL_marking 5 = .ok (.invokevirtual 40, 3) := by decide +kernel
theorem dL_marking_8 : decode cL_marking 8 = .ok (.i2l, 1) := by decide +kernel
theorem dL_marking_9 : decode cL_marking 9 = .ok (.lastore, 1) := by decide +kernel
theorem dL_marking_10 : decode cL_marking 10 = .ok (.goto 11, 3) := by decide +kernel
theorem dL_marking_13 : decode cL_marking 13 = .ok (.astore 4, 2) := by decide +kernel
theorem dL_marking_15 : decode cL_marking 15 = .ok (.iconst 1, 1) := by decide +kernel
theorem dL_marking_16 : decode cL_marking 16 = .ok (.ireturn, 1) := by decide +kernel
theorem dL_marking_17 : decode cL_marking 17 = .ok (.astore 4, 2) := by decide +kernel
theorem dL_marking_19 : decode cL_marking 19 = .ok (.iconst 2, 1) := by decide +kernel
theorem dL_marking_20 : decode cL_marking 20 = .ok (.ireturn, 1) := by decide +kernel
theorem dL_marking_21 : decode cL_marking 21 = .ok (.iconst 0, 1) := by decide +kernel
theorem dL_marking_22 : decode cL_marking 22 = .ok (.ireturn, 1) := by decide +kernel
theorem dL_most_0 : decode cL_most 0 = .ok (.aload_n 2, 1) := by decide +kernel
theorem dL_most_1 : decode cL_most 1 = .ok (.iconst 0, 1) := by decide +kernel
theorem dL_most_2 : decode cL_most 2 = .ok (.aload_n 0, 1) := by decide +kernel
theorem dL_most_3 : decode cL_most 3 = .ok (.iload_n 1, 1) := by decide +kernel
theorem dL_most_4 : decode cL_most 4 = .ok (.invokevirtual 44, 3) := by decide +kernel
theorem dL_most_7 : decode cL_most 7 = .ok (.i2l, 1) := by decide +kernel
theorem dL_most_8 : decode cL_most 8 = .ok (.lastore, 1) := by decide +kernel
theorem dL_most_9 : decode cL_most 9 = .ok (.goto 6, 3) := by decide +kernel
theorem dL_most_12 : decode cL_most 12 = .ok (.astore_n 3, 1) := by decide +kernel
theorem dL_most_13 : decode cL_most 13 = .ok (.iconst 1, 1) := by decide +kernel
theorem dL_most_14 : decode cL_most 14 = .ok (.ireturn, 1) := by decide +kernel
theorem dL_most_15 : decode cL_most 15 = .ok (.iconst 0, 1) := by decide +kernel
theorem dL_most_16 : decode cL_most 16 = .ok (.ireturn, 1) := by decide +kernel
theorem dL_level_0 : decode cL_level 0 = .ok (.aload_n 2, 1) := by decide +kernel
theorem dL_level_1 : decode cL_level 1 = .ok (.iconst 0, 1) := by decide +kernel
theorem dL_level_2 : decode cL_level 2 = .ok (.aload_n 0, 1) := by decide +kernel
theorem dL_level_3 : decode cL_level 3 = .ok (.iload_n 1, 1) := by decide +kernel
theorem dL_level_4 : decode cL_level 4 = .ok (.invokevirtual 47, 3) := by decide +kernel
theorem dL_level_7 : decode cL_level 7 = .ok (.i2l, 1) := by decide +kernel
theorem dL_level_8 : decode cL_level 8 = .ok (.lastore, 1) := by decide +kernel
theorem dL_level_9 : decode cL_level 9 = .ok (.goto 6, 3) := by decide +kernel
theorem dL_level_12 : decode cL_level 12 = .ok (.astore_n 3, 1) := by decide +kernel
theorem dL_level_13 : decode cL_level 13 = .ok (.iconst 1, 1) := by decide +kernel
theorem dL_level_14 : decode cL_level 14 = .ok (.ireturn, 1) := by decide +kernel
theorem dL_level_15 : decode cL_level 15 = .ok (.iconst 0, 1) := by decide +kernel
theorem dL_level_16 : decode cL_level 16 = .ok (.ireturn, 1) := by decide +kernel
theorem dL_way_0 : decode cL_way 0 = .ok (.aload_n 3, 1) := by decide +kernel
theorem dL_way_1 : decode cL_way 1 = .ok (.iconst 0, 1) := by decide +kernel
theorem dL_way_2 : decode cL_way 2 = .ok (.aload_n 0, 1) := by decide +kernel
theorem dL_way_3 : decode cL_way 3 = .ok (.iload_n 1, 1) := by decide +kernel
theorem dL_way_4 : decode cL_way 4 = .ok (.iload_n 2, 1) := by decide +kernel
theorem dL_way_5 : decode cL_way 5 = .ok (.invokevirtual 50, 3) := by decide +kernel
theorem dL_way_8 : decode cL_way 8 = .ok (.i2l, 1) := by decide +kernel
theorem dL_way_9 : decode cL_way 9 = .ok (.lastore, 1) := by decide +kernel
theorem dL_way_10 : decode cL_way 10 = .ok (.goto 11, 3) := by decide +kernel
theorem dL_way_13 : decode cL_way 13 = .ok (.astore 4, 2) := by decide +kernel
theorem dL_way_15 : decode cL_way 15 = .ok (.iconst 1, 1) := by decide +kernel
theorem dL_way_16 : decode cL_way 16 = .ok (.ireturn, 1) := by decide +kernel
theorem dL_way_17 : decode cL_way 17 = .ok (.astore 4, 2) := by decide +kernel
theorem dL_way_19 : decode cL_way 19 = .ok (.iconst 2, 1) := by decide +kernel
theorem dL_way_20 : decode cL_way 20 = .ok (.ireturn, 1) := by decide +kernel
theorem dL_way_21 : decode cL_way 21 = .ok (.iconst 0, 1) := by decide +kernel
theorem dL_way_22 : decode cL_way 22 = .ok (.ireturn, 1) := by decide +kernel
theorem dL_step_0 : decode cL_step 0 = .ok (.aload 4, 2) := by decide +kernel
theorem dL_step_2 : decode cL_step 2 = .ok (.iconst 0, 1) := by decide +kernel
theorem dL_step_3 : decode cL_step 3 = .ok (.aload_n 0, 1) := by decide +kernel
theorem dL_step_4 : decode cL_step 4 = .ok (.iload_n 1, 1) := by decide +kernel
theorem dL_step_5 : decode cL_step 5 = .ok (.iload_n 2, 1) := by decide +kernel
theorem dL_step_6 : decode cL_step 6 = .ok (.iload_n 3, 1) := by decide +kernel
theorem dL_step_7 : decode cL_step 7 = .ok (.invokevirtual 53, 3) := by decide +kernel
theorem dL_step_10 : decode cL_step 10 = .ok (.i2l, 1) := by decide +kernel
theorem dL_step_11 : decode cL_step 11 = .ok (.lastore, 1) := by decide +kernel
theorem dL_step_12 : decode cL_step 12 = .ok (.goto 11, 3) := by decide +kernel
theorem dL_step_15 : decode cL_step 15 = .ok (.astore 5, 2) := by decide +kernel
theorem dL_step_17 : decode cL_step 17 = .ok (.iconst 1, 1) := by decide +kernel
theorem dL_step_18 : decode cL_step 18 = .ok (.ireturn, 1) := by decide +kernel
theorem dL_step_19 : decode cL_step 19 = .ok (.astore 5, 2) := by decide +kernel
theorem dL_step_21 : decode cL_step 21 = .ok (.iconst 2, 1) := by decide +kernel
theorem dL_step_22 : decode cL_step 22 = .ok (.ireturn, 1) := by decide +kernel
theorem dL_step_23 : decode cL_step 23 = .ok (.iconst 0, 1) := by decide +kernel
theorem dL_step_24 : decode cL_step 24 = .ok (.ireturn, 1) := by decide +kernel
theorem dL_row_0 : decode cL_row 0 = .ok (.aload_n 3, 1) := by decide +kernel
theorem dL_row_1 : decode cL_row 1 = .ok (.iconst 0, 1) := by decide +kernel
theorem dL_row_2 : decode cL_row 2 = .ok (.aload_n 0, 1) := by decide +kernel
theorem dL_row_3 : decode cL_row 3 = .ok (.iload_n 1, 1) := by decide +kernel
theorem dL_row_4 : decode cL_row 4 = .ok (.iload_n 2, 1) := by decide +kernel
theorem dL_row_5 : decode cL_row 5 = .ok (.invokevirtual 57, 3) := by decide +kernel
theorem dL_row_8 : decode cL_row 8 = .ok (.i2l, 1) := by decide +kernel
theorem dL_row_9 : decode cL_row 9 = .ok (.lastore, 1) := by decide +kernel
theorem dL_row_10 : decode cL_row 10 = .ok (.goto 7, 3) := by decide +kernel
theorem dL_row_13 : decode cL_row 13 = .ok (.astore 4, 2) := by decide +kernel
theorem dL_row_15 : decode cL_row 15 = .ok (.iconst 1, 1) := by decide +kernel
theorem dL_row_16 : decode cL_row 16 = .ok (.ireturn, 1) := by decide +kernel
theorem dL_row_17 : decode cL_row 17 = .ok (.iconst 0, 1) := by decide +kernel
theorem dL_row_18 : decode cL_row 18 = .ok (.ireturn, 1) := by decide +kernel
theorem dL_mostByRows_0 : decode cL_mostByRows 0 = .ok (.aload_n 2, 1) := by decide +kernel
theorem dL_mostByRows_1 : decode cL_mostByRows 1 = .ok (.iconst 0, 1) := by decide +kernel
theorem dL_mostByRows_2 : decode cL_mostByRows 2 = .ok (.aload_n 0, 1) := by decide +kernel
theorem dL_mostByRows_3 : decode cL_mostByRows 3 = .ok (.iload_n 1, 1) := by decide +kernel
theorem dL_mostByRows_4 : decode cL_mostByRows 4 = .ok (.invokevirtual 60, 3) := by decide +kernel
theorem dL_mostByRows_7 : decode cL_mostByRows 7 = .ok (.i2l, 1) := by decide +kernel
theorem dL_mostByRows_8 : decode cL_mostByRows 8 = .ok (.lastore, 1) := by decide +kernel
theorem dL_mostByRows_9 : decode cL_mostByRows 9 = .ok (.goto 6, 3) := by decide +kernel
theorem dL_mostByRows_12 : decode cL_mostByRows 12 = .ok (.astore_n 3, 1) := by decide +kernel
theorem dL_mostByRows_13 : decode cL_mostByRows 13 = .ok (.iconst 1, 1) := by decide +kernel
theorem dL_mostByRows_14 : decode cL_mostByRows 14 = .ok (.ireturn, 1) := by decide +kernel
theorem dL_mostByRows_15 : decode cL_mostByRows 15 = .ok (.iconst 0, 1) := by decide +kernel
theorem dL_mostByRows_16 : decode cL_mostByRows 16 = .ok (.ireturn, 1) := by decide +kernel
theorem dL_round_0 : decode cL_round 0 = .ok (.aload_n 3, 1) := by decide +kernel
theorem dL_round_1 : decode cL_round 1 = .ok (.iconst 0, 1) := by decide +kernel
theorem dL_round_2 : decode cL_round 2 = .ok (.aload_n 0, 1) := by decide +kernel
theorem dL_round_3 : decode cL_round 3 = .ok (.iload_n 1, 1) := by decide +kernel
theorem dL_round_4 : decode cL_round 4 = .ok (.iload_n 2, 1) := by decide +kernel
theorem dL_round_5 : decode cL_round 5 = .ok (.invokevirtual 63, 3) := by decide +kernel
theorem dL_round_8 : decode cL_round 8 = .ok (.i2l, 1) := by decide +kernel
theorem dL_round_9 : decode cL_round 9 = .ok (.lastore, 1) := by decide +kernel
theorem dL_round_10 : decode cL_round 10 = .ok (.goto 7, 3) := by decide +kernel
theorem dL_round_13 : decode cL_round 13 = .ok (.astore 4, 2) := by decide +kernel
theorem dL_round_15 : decode cL_round 15 = .ok (.iconst 1, 1) := by decide +kernel
theorem dL_round_16 : decode cL_round 16 = .ok (.ireturn, 1) := by decide +kernel
theorem dL_round_17 : decode cL_round 17 = .ok (.iconst 0, 1) := by decide +kernel
theorem dL_round_18 : decode cL_round 18 = .ok (.ireturn, 1) := by decide +kernel
theorem dL_siphon_0 : decode cL_siphon 0 = .ok (.aload_n 2, 1) := by decide +kernel
theorem dL_siphon_1 : decode cL_siphon 1 = .ok (.iconst 0, 1) := by decide +kernel
theorem dL_siphon_2 : decode cL_siphon 2 = .ok (.aload_n 0, 1) := by decide +kernel
theorem dL_siphon_3 : decode cL_siphon 3 = .ok (.iload_n 1, 1) := by decide +kernel
theorem dL_siphon_4 : decode cL_siphon 4 = .ok (.invokevirtual 66, 3) := by decide +kernel
theorem dL_siphon_7 : decode cL_siphon 7 = .ok (.i2l, 1) := by decide +kernel
theorem dL_siphon_8 : decode cL_siphon 8 = .ok (.lastore, 1) := by decide +kernel
theorem dL_siphon_9 : decode cL_siphon 9 = .ok (.goto 6, 3) := by decide +kernel
theorem dL_siphon_12 : decode cL_siphon 12 = .ok (.astore_n 3, 1) := by decide +kernel
theorem dL_siphon_13 : decode cL_siphon 13 = .ok (.iconst 1, 1) := by decide +kernel
theorem dL_siphon_14 : decode cL_siphon 14 = .ok (.ireturn, 1) := by decide +kernel
theorem dL_siphon_15 : decode cL_siphon 15 = .ok (.iconst 0, 1) := by decide +kernel
theorem dL_siphon_16 : decode cL_siphon 16 = .ok (.ireturn, 1) := by decide +kernel
theorem dL_trap_0 : decode cL_trap 0 = .ok (.aload_n 2, 1) := by decide +kernel
theorem dL_trap_1 : decode cL_trap 1 = .ok (.iconst 0, 1) := by decide +kernel
theorem dL_trap_2 : decode cL_trap 2 = .ok (.aload_n 0, 1) := by decide +kernel
theorem dL_trap_3 : decode cL_trap 3 = .ok (.iload_n 1, 1) := by decide +kernel
theorem dL_trap_4 : decode cL_trap 4 = .ok (.invokevirtual 69, 3) := by decide +kernel
theorem dL_trap_7 : decode cL_trap 7 = .ok (.i2l, 1) := by decide +kernel
theorem dL_trap_8 : decode cL_trap 8 = .ok (.lastore, 1) := by decide +kernel
theorem dL_trap_9 : decode cL_trap 9 = .ok (.goto 6, 3) := by decide +kernel
theorem dL_trap_12 : decode cL_trap 12 = .ok (.astore_n 3, 1) := by decide +kernel
theorem dL_trap_13 : decode cL_trap 13 = .ok (.iconst 1, 1) := by decide +kernel
theorem dL_trap_14 : decode cL_trap 14 = .ok (.ireturn, 1) := by decide +kernel
theorem dL_trap_15 : decode cL_trap 15 = .ok (.iconst 0, 1) := by decide +kernel
theorem dL_trap_16 : decode cL_trap 16 = .ok (.ireturn, 1) := by decide +kernel
theorem dL_log_0 : decode cL_log 0 = .ok (.aload_n 2, 1) := by decide +kernel
theorem dL_log_1 : decode cL_log 1 = .ok (.iconst 0, 1) := by decide +kernel
theorem dL_log_2 : decode cL_log 2 = .ok (.aload_n 0, 1) := by decide +kernel
theorem dL_log_3 : decode cL_log 3 = .ok (.iload_n 1, 1) := by decide +kernel
theorem dL_log_4 : decode cL_log 4 = .ok (.invokevirtual 72, 3) := by decide +kernel
theorem dL_log_7 : decode cL_log 7 = .ok (.i2l, 1) := by decide +kernel
theorem dL_log_8 : decode cL_log 8 = .ok (.lastore, 1) := by decide +kernel
theorem dL_log_9 : decode cL_log 9 = .ok (.goto 9, 3) := by decide +kernel
theorem dL_log_12 : decode cL_log 12 = .ok (.astore_n 3, 1) := by decide +kernel
theorem dL_log_13 : decode cL_log 13 = .ok (.iconst 1, 1) := by decide +kernel
theorem dL_log_14 : decode cL_log 14 = .ok (.ireturn, 1) := by decide +kernel
theorem dL_log_15 : decode cL_log 15 = .ok (.astore_n 3, 1) := by decide +kernel
theorem dL_log_16 : decode cL_log 16 = .ok (.iconst 2, 1) := by decide +kernel
theorem dL_log_17 : decode cL_log 17 = .ok (.ireturn, 1) := by decide +kernel
theorem dL_log_18 : decode cL_log 18 = .ok (.iconst 0, 1) := by decide +kernel
theorem dL_log_19 : decode cL_log 19 = .ok (.ireturn, 1) := by decide +kernel
theorem dL_law_0 : decode cL_law 0 = .ok (.new 8, 3) := by decide +kernel
theorem dL_law_3 : decode cL_law 3 = .ok (.dup, 1) := by decide +kernel
theorem dL_law_4 : decode cL_law 4 = .ok (.invokespecial 75, 3) := by decide +kernel
theorem dL_law_7 : decode cL_law 7 = .ok (.astore_n 1, 1) := by decide +kernel
theorem dL_law_8 : decode cL_law 8 = .ok (.new 76, 3) := by decide +kernel
theorem dL_law_11 : decode cL_law 11 = .ok (.dup, 1) := by decide +kernel
theorem dL_law_12 : decode cL_law 12 = .ok (.invokespecial 78, 3) := by decide +kernel
theorem dL_law_15 : decode cL_law 15 = .ok (.astore_n 2, 1) := by decide +kernel
theorem dL_law_16 : decode cL_law 16 = .ok (.iconst 1, 1) := by decide +kernel
theorem dL_law_17 : decode cL_law 17 = .ok (.newarray .long, 2) := by decide +kernel
theorem dL_law_19 : decode cL_law 19 = .ok (.astore_n 3, 1) := by decide +kernel
theorem dL_law_20 : decode cL_law 20 = .ok (.iconst 0, 1) := by decide +kernel
theorem dL_law_21 : decode cL_law 21 = .ok (.istore 4, 2) := by decide +kernel
theorem dL_law_23 : decode cL_law 23 = .ok (.iload 4, 2) := by decide +kernel
theorem dL_law_25 : decode cL_law 25 = .ok (.aload_n 0, 1) := by decide +kernel
theorem dL_law_26 : decode cL_law 26 = .ok (.arraylength, 1) := by decide +kernel
theorem dL_law_27 : decode cL_law 27 = .ok (.iconst 5, 1) := by decide +kernel
theorem dL_law_28 : decode cL_law 28 = .ok (.isub, 1) := by decide +kernel
theorem dL_law_29 : decode cL_law 29 = .ok (.if_icmp .gt 1348, 3) := by decide +kernel
theorem dL_law_32 : decode cL_law 32 = .ok (.aload_n 0, 1) := by decide +kernel
theorem dL_law_33 : decode cL_law 33 = .ok (.iload 4, 2) := by decide +kernel
theorem dL_law_35 : decode cL_law 35 = .ok (.iaload, 1) := by decide +kernel
theorem dL_law_36 : decode cL_law 36 = .ok (.bipush 31, 2) := by decide +kernel
theorem dL_law_38 : decode cL_law 38 = .ok (.iand, 1) := by decide +kernel
theorem dL_law_39 : decode cL_law 39 = .ok (.tableswitch 1332 0 25 #[117, 173, 217, 309, 365, 428, 484, 540, 608, 664, 720, 788, 868, 881, 949, 1005, 1018, 1086, 1099, 1112, 1168, 1224, 1237, 1293, 1306, 1319], 117) := by decide +kernel
theorem dL_law_156 : decode cL_law 156 = .ok (.aload_n 1, 1) := by decide +kernel
theorem dL_law_157 : decode cL_law 157 = .ok (.aload_n 0, 1) := by decide +kernel
theorem dL_law_158 : decode cL_law 158 = .ok (.iload 4, 2) := by decide +kernel
theorem dL_law_160 : decode cL_law 160 = .ok (.iconst 1, 1) := by decide +kernel
theorem dL_law_161 : decode cL_law 161 = .ok (.iadd, 1) := by decide +kernel
theorem dL_law_162 : decode cL_law 162 = .ok (.iaload, 1) := by decide +kernel
theorem dL_law_163 : decode cL_law 163 = .ok (.aload_n 3, 1) := by decide +kernel
theorem dL_law_164 : decode cL_law 164 = .ok (.invokestatic 79, 3) := by decide +kernel
theorem dL_law_167 : decode cL_law 167 = .ok (.istore 5, 2) := by decide +kernel
theorem dL_law_169 : decode cL_law 169 = .ok (.aload_n 2, 1) := by decide +kernel
theorem dL_law_170 : decode cL_law 170 = .ok (.aload_n 0, 1) := by decide +kernel
theorem dL_law_171 : decode cL_law 171 = .ok (.iload 4, 2) := by decide +kernel
theorem dL_law_173 : decode cL_law 173 = .ok (.iconst 1, 1) := by decide +kernel
theorem dL_law_174 : decode cL_law 174 = .ok (.iadd, 1) := by decide +kernel
theorem dL_law_175 : decode cL_law 175 = .ok (.iaload, 1) := by decide +kernel
theorem dL_law_176 : decode cL_law 176 = .ok (.invokevirtual 84, 3) := by decide +kernel
theorem dL_law_179 : decode cL_law 179 = .ok (.istore 6, 2) := by decide +kernel
theorem dL_law_181 : decode cL_law 181 = .ok (.aload_n 2, 1) := by decide +kernel
theorem dL_law_182 : decode cL_law 182 = .ok (.invokevirtual 85, 3) := by decide +kernel
theorem dL_law_185 : decode cL_law 185 = .ok (.iload 5, 2) := by decide +kernel
theorem dL_law_187 : decode cL_law 187 = .ok (.if_icmp .eq 5, 3) := by decide +kernel
theorem dL_law_190 : decode cL_law 190 = .ok (.iconst 0, 1) := by decide +kernel
theorem dL_law_191 : decode cL_law 191 = .ok (.ireturn, 1) := by decide +kernel
theorem dL_law_192 : decode cL_law 192 = .ok (.iload 5, 2) := by decide +kernel
theorem dL_law_194 : decode cL_law 194 = .ok (.ifCond .ne 15, 3) := by decide +kernel
theorem dL_law_197 : decode cL_law 197 = .ok (.aload_n 3, 1) := by decide +kernel
theorem dL_law_198 : decode cL_law 198 = .ok (.iconst 0, 1) := by decide +kernel
theorem dL_law_199 : decode cL_law 199 = .ok (.laload, 1) := by decide +kernel
theorem dL_law_200 : decode cL_law 200 = .ok (.iload 6, 2) := by decide +kernel
theorem dL_law_202 : decode cL_law 202 = .ok (.i2l, 1) := by decide +kernel
theorem dL_law_203 : decode cL_law 203 = .ok (.lcmp, 1) := by decide +kernel
theorem dL_law_204 : decode cL_law 204 = .ok (.ifCond .eq 5, 3) := by decide +kernel
theorem dL_law_207 : decode cL_law 207 = .ok (.iconst 0, 1) := by decide +kernel
theorem dL_law_208 : decode cL_law 208 = .ok (.ireturn, 1) := by decide +kernel
theorem dL_law_209 : decode cL_law 209 = .ok (.goto 1162, 3) := by decide +kernel
theorem dL_law_212 : decode cL_law 212 = .ok (.aload_n 1, 1) := by decide +kernel
theorem dL_law_213 : decode cL_law 213 = .ok (.aload_n 3, 1) := by decide +kernel
theorem dL_law_214 : decode cL_law 214 = .ok (.invokestatic 88, 3) := by decide +kernel
theorem dL_law_217 : decode cL_law 217 = .ok (.istore 5, 2) := by decide +kernel
theorem dL_law_219 : decode cL_law 219 = .ok (.aload_n 2, 1) := by decide +kernel
theorem dL_law_220 : decode cL_law 220 = .ok (.invokevirtual 91, 3) := by decide +kernel
theorem dL_law_223 : decode cL_law 223 = .ok (.istore 6, 2) := by decide +kernel
theorem dL_law_225 : decode cL_law 225 = .ok (.aload_n 2, 1) := by decide +kernel
theorem dL_law_226 : decode cL_law 226 = .ok (.invokevirtual 85, 3) := by decide +kernel
theorem dL_law_229 : decode cL_law 229 = .ok (.iload 5, 2) := by decide +kernel
theorem dL_law_231 : decode cL_law 231 = .ok (.if_icmp .eq 5, 3) := by decide +kernel
theorem dL_law_234 : decode cL_law 234 = .ok (.iconst 0, 1) := by decide +kernel
theorem dL_law_235 : decode cL_law 235 = .ok (.ireturn, 1) := by decide +kernel
theorem dL_law_236 : decode cL_law 236 = .ok (.iload 5, 2) := by decide +kernel
theorem dL_law_238 : decode cL_law 238 = .ok (.ifCond .ne 15, 3) := by decide +kernel
theorem dL_law_241 : decode cL_law 241 = .ok (.aload_n 3, 1) := by decide +kernel
theorem dL_law_242 : decode cL_law 242 = .ok (.iconst 0, 1) := by decide +kernel
theorem dL_law_243 : decode cL_law 243 = .ok (.laload, 1) := by decide +kernel
theorem dL_law_244 : decode cL_law 244 = .ok (.iload 6, 2) := by decide +kernel
theorem dL_law_246 : decode cL_law 246 = .ok (.i2l, 1) := by decide +kernel
theorem dL_law_247 : decode cL_law 247 = .ok (.lcmp, 1) := by decide +kernel
theorem dL_law_248 : decode cL_law 248 = .ok (.ifCond .eq 5, 3) := by decide +kernel
theorem dL_law_251 : decode cL_law 251 = .ok (.iconst 0, 1) := by decide +kernel
theorem dL_law_252 : decode cL_law 252 = .ok (.ireturn, 1) := by decide +kernel
theorem dL_law_253 : decode cL_law 253 = .ok (.goto 1118, 3) := by decide +kernel
theorem dL_law_256 : decode cL_law 256 = .ok (.aload_n 1, 1) := by decide +kernel
theorem dL_law_257 : decode cL_law 257 = .ok (.aload_n 0, 1) := by decide +kernel
theorem dL_law_258 : decode cL_law 258 = .ok (.iload 4, 2) := by decide +kernel
theorem dL_law_260 : decode cL_law 260 = .ok (.iconst 1, 1) := by decide +kernel
theorem dL_law_261 : decode cL_law 261 = .ok (.iadd, 1) := by decide +kernel
theorem dL_law_262 : decode cL_law 262 = .ok (.iaload, 1) := by decide +kernel
theorem dL_law_263 : decode cL_law 263 = .ok (.aload_n 0, 1) := by decide +kernel
theorem dL_law_264 : decode cL_law 264 = .ok (.iload 4, 2) := by decide +kernel
theorem dL_law_266 : decode cL_law 266 = .ok (.iconst 2, 1) := by decide +kernel
theorem dL_law_267 : decode cL_law 267 = .ok (.iadd, 1) := by decide +kernel
theorem dL_law_268 : decode cL_law 268 = .ok (.iaload, 1) := by decide +kernel
theorem dL_law_269 : decode cL_law 269 = .ok (.aload_n 0, 1) := by decide +kernel
theorem dL_law_270 : decode cL_law 270 = .ok (.iload 4, 2) := by decide +kernel
theorem dL_law_272 : decode cL_law 272 = .ok (.iconst 3, 1) := by decide +kernel
theorem dL_law_273 : decode cL_law 273 = .ok (.iadd, 1) := by decide +kernel
theorem dL_law_274 : decode cL_law 274 = .ok (.iaload, 1) := by decide +kernel
theorem dL_law_275 : decode cL_law 275 = .ok (.aload_n 0, 1) := by decide +kernel
theorem dL_law_276 : decode cL_law 276 = .ok (.iload 4, 2) := by decide +kernel
theorem dL_law_278 : decode cL_law 278 = .ok (.iconst 4, 1) := by decide +kernel
theorem dL_law_279 : decode cL_law 279 = .ok (.iadd, 1) := by decide +kernel
theorem dL_law_280 : decode cL_law 280 = .ok (.iaload, 1) := by decide +kernel
theorem dL_law_281 : decode cL_law 281 = .ok (.aload_n 3, 1) := by decide +kernel
theorem dL_law_282 : decode cL_law 282 = .ok (.invokestatic 92, 3) := by decide +kernel
theorem dL_law_285 : decode cL_law 285 = .ok (.istore 5, 2) := by decide +kernel
theorem dL_law_287 : decode cL_law 287 = .ok (.aload_n 2, 1) := by decide +kernel
theorem dL_law_288 : decode cL_law 288 = .ok (.aload_n 0, 1) := by decide +kernel
theorem dL_law_289 : decode cL_law 289 = .ok (.iload 4, 2) := by decide +kernel
theorem dL_law_291 : decode cL_law 291 = .ok (.iconst 1, 1) := by decide +kernel
theorem dL_law_292 : decode cL_law 292 = .ok (.iadd, 1) := by decide +kernel
theorem dL_law_293 : decode cL_law 293 = .ok (.iaload, 1) := by decide +kernel
theorem dL_law_294 : decode cL_law 294 = .ok (.aload_n 0, 1) := by decide +kernel
theorem dL_law_295 : decode cL_law 295 = .ok (.iload 4, 2) := by decide +kernel
theorem dL_law_297 : decode cL_law 297 = .ok (.iconst 2, 1) := by decide +kernel
theorem dL_law_298 : decode cL_law 298 = .ok (.iadd, 1) := by decide +kernel
theorem dL_law_299 : decode cL_law 299 = .ok (.iaload, 1) := by decide +kernel
theorem dL_law_300 : decode cL_law 300 = .ok (.aload_n 0, 1) := by decide +kernel
theorem dL_law_301 : decode cL_law 301 = .ok (.iload 4, 2) := by decide +kernel
theorem dL_law_303 : decode cL_law 303 = .ok (.iconst 3, 1) := by decide +kernel
theorem dL_law_304 : decode cL_law 304 = .ok (.iadd, 1) := by decide +kernel
theorem dL_law_305 : decode cL_law 305 = .ok (.iaload, 1) := by decide +kernel
theorem dL_law_306 : decode cL_law 306 = .ok (.aload_n 0, 1) := by decide +kernel
theorem dL_law_307 : decode cL_law 307 = .ok (.iload 4, 2) := by decide +kernel
theorem dL_law_309 : decode cL_law 309 = .ok (.iconst 4, 1) := by decide +kernel
theorem dL_law_310 : decode cL_law 310 = .ok (.iadd, 1) := by decide +kernel
theorem dL_law_311 : decode cL_law 311 = .ok (.iaload, 1) := by decide +kernel
theorem dL_law_312 : decode cL_law 312 = .ok (.invokevirtual 95, 3) := by decide +kernel
theorem dL_law_315 : decode cL_law 315 = .ok (.istore 6, 2) := by decide +kernel
theorem dL_law_317 : decode cL_law 317 = .ok (.aload_n 2, 1) := by decide +kernel
theorem dL_law_318 : decode cL_law 318 = .ok (.invokevirtual 85, 3) := by decide +kernel
theorem dL_law_321 : decode cL_law 321 = .ok (.iload 5, 2) := by decide +kernel
theorem dL_law_323 : decode cL_law 323 = .ok (.if_icmp .eq 5, 3) := by decide +kernel
theorem dL_law_326 : decode cL_law 326 = .ok (.iconst 0, 1) := by decide +kernel
theorem dL_law_327 : decode cL_law 327 = .ok (.ireturn, 1) := by decide +kernel
theorem dL_law_328 : decode cL_law 328 = .ok (.iload 5, 2) := by decide +kernel
theorem dL_law_330 : decode cL_law 330 = .ok (.ifCond .ne 15, 3) := by decide +kernel
theorem dL_law_333 : decode cL_law 333 = .ok (.aload_n 3, 1) := by decide +kernel
theorem dL_law_334 : decode cL_law 334 = .ok (.iconst 0, 1) := by decide +kernel
theorem dL_law_335 : decode cL_law 335 = .ok (.laload, 1) := by decide +kernel
theorem dL_law_336 : decode cL_law 336 = .ok (.iload 6, 2) := by decide +kernel
theorem dL_law_338 : decode cL_law 338 = .ok (.i2l, 1) := by decide +kernel
theorem dL_law_339 : decode cL_law 339 = .ok (.lcmp, 1) := by decide +kernel
theorem dL_law_340 : decode cL_law 340 = .ok (.ifCond .eq 5, 3) := by decide +kernel
theorem dL_law_343 : decode cL_law 343 = .ok (.iconst 0, 1) := by decide +kernel
theorem dL_law_344 : decode cL_law 344 = .ok (.ireturn, 1) := by decide +kernel
theorem dL_law_345 : decode cL_law 345 = .ok (.goto 1026, 3) := by decide +kernel
theorem dL_law_348 : decode cL_law 348 = .ok (.aload_n 1, 1) := by decide +kernel
theorem dL_law_349 : decode cL_law 349 = .ok (.aload_n 0, 1) := by decide +kernel
theorem dL_law_350 : decode cL_law 350 = .ok (.iload 4, 2) := by decide +kernel
theorem dL_law_352 : decode cL_law 352 = .ok (.iconst 1, 1) := by decide +kernel
theorem dL_law_353 : decode cL_law 353 = .ok (.iadd, 1) := by decide +kernel
theorem dL_law_354 : decode cL_law 354 = .ok (.iaload, 1) := by decide +kernel
theorem dL_law_355 : decode cL_law 355 = .ok (.aload_n 3, 1) := by decide +kernel
theorem dL_law_356 : decode cL_law 356 = .ok (.invokestatic 96, 3) := by decide +kernel
theorem dL_law_359 : decode cL_law 359 = .ok (.istore 5, 2) := by decide +kernel
theorem dL_law_361 : decode cL_law 361 = .ok (.aload_n 2, 1) := by decide +kernel
theorem dL_law_362 : decode cL_law 362 = .ok (.aload_n 0, 1) := by decide +kernel
theorem dL_law_363 : decode cL_law 363 = .ok (.iload 4, 2) := by decide +kernel
theorem dL_law_365 : decode cL_law 365 = .ok (.iconst 1, 1) := by decide +kernel
theorem dL_law_366 : decode cL_law 366 = .ok (.iadd, 1) := by decide +kernel
theorem dL_law_367 : decode cL_law 367 = .ok (.iaload, 1) := by decide +kernel
theorem dL_law_368 : decode cL_law 368 = .ok (.invokevirtual 98, 3) := by decide +kernel
theorem dL_law_371 : decode cL_law 371 = .ok (.istore 6, 2) := by decide +kernel
theorem dL_law_373 : decode cL_law 373 = .ok (.aload_n 2, 1) := by decide +kernel
theorem dL_law_374 : decode cL_law 374 = .ok (.invokevirtual 85, 3) := by decide +kernel
theorem dL_law_377 : decode cL_law 377 = .ok (.iload 5, 2) := by decide +kernel
theorem dL_law_379 : decode cL_law 379 = .ok (.if_icmp .eq 5, 3) := by decide +kernel
theorem dL_law_382 : decode cL_law 382 = .ok (.iconst 0, 1) := by decide +kernel
theorem dL_law_383 : decode cL_law 383 = .ok (.ireturn, 1) := by decide +kernel
theorem dL_law_384 : decode cL_law 384 = .ok (.iload 5, 2) := by decide +kernel
theorem dL_law_386 : decode cL_law 386 = .ok (.ifCond .ne 15, 3) := by decide +kernel
theorem dL_law_389 : decode cL_law 389 = .ok (.aload_n 3, 1) := by decide +kernel
theorem dL_law_390 : decode cL_law 390 = .ok (.iconst 0, 1) := by decide +kernel
theorem dL_law_391 : decode cL_law 391 = .ok (.laload, 1) := by decide +kernel
theorem dL_law_392 : decode cL_law 392 = .ok (.iload 6, 2) := by decide +kernel
theorem dL_law_394 : decode cL_law 394 = .ok (.i2l, 1) := by decide +kernel
theorem dL_law_395 : decode cL_law 395 = .ok (.lcmp, 1) := by decide +kernel
theorem dL_law_396 : decode cL_law 396 = .ok (.ifCond .eq 5, 3) := by decide +kernel
theorem dL_law_399 : decode cL_law 399 = .ok (.iconst 0, 1) := by decide +kernel
theorem dL_law_400 : decode cL_law 400 = .ok (.ireturn, 1) := by decide +kernel
theorem dL_law_401 : decode cL_law 401 = .ok (.goto 970, 3) := by decide +kernel
theorem dL_law_404 : decode cL_law 404 = .ok (.aload_n 1, 1) := by decide +kernel
theorem dL_law_405 : decode cL_law 405 = .ok (.aload_n 0, 1) := by decide +kernel
theorem dL_law_406 : decode cL_law 406 = .ok (.iload 4, 2) := by decide +kernel
theorem dL_law_408 : decode cL_law 408 = .ok (.iconst 1, 1) := by decide +kernel
theorem dL_law_409 : decode cL_law 409 = .ok (.iadd, 1) := by decide +kernel
theorem dL_law_410 : decode cL_law 410 = .ok (.iaload, 1) := by decide +kernel
theorem dL_law_411 : decode cL_law 411 = .ok (.aload_n 3, 1) := by decide +kernel
theorem dL_law_412 : decode cL_law 412 = .ok (.invokestatic 99, 3) := by decide +kernel
theorem dL_law_415 : decode cL_law 415 = .ok (.istore 5, 2) := by decide +kernel
theorem dL_law_417 : decode cL_law 417 = .ok (.aload_n 2, 1) := by decide +kernel
theorem dL_law_418 : decode cL_law 418 = .ok (.aload_n 0, 1) := by decide +kernel
theorem dL_law_419 : decode cL_law 419 = .ok (.iload 4, 2) := by decide +kernel
theorem dL_law_421 : decode cL_law 421 = .ok (.iconst 1, 1) := by decide +kernel
theorem dL_law_422 : decode cL_law 422 = .ok (.iadd, 1) := by decide +kernel
theorem dL_law_423 : decode cL_law 423 = .ok (.iaload, 1) := by decide +kernel
theorem dL_law_424 : decode cL_law 424 = .ok (.invokevirtual 101, 3) := by decide +kernel
theorem dL_law_427 : decode cL_law 427 = .ok (.istore 6, 2) := by decide +kernel
theorem dL_law_429 : decode cL_law 429 = .ok (.aload_n 2, 1) := by decide +kernel
theorem dL_law_430 : decode cL_law 430 = .ok (.invokevirtual 85, 3) := by decide +kernel
theorem dL_law_433 : decode cL_law 433 = .ok (.iload 5, 2) := by decide +kernel
theorem dL_law_435 : decode cL_law 435 = .ok (.if_icmp .eq 5, 3) := by decide +kernel
theorem dL_law_438 : decode cL_law 438 = .ok (.iconst 0, 1) := by decide +kernel
theorem dL_law_439 : decode cL_law 439 = .ok (.ireturn, 1) := by decide +kernel
theorem dL_law_440 : decode cL_law 440 = .ok (.iload 5, 2) := by decide +kernel
theorem dL_law_442 : decode cL_law 442 = .ok (.ifCond .ne 22, 3) := by decide +kernel
theorem dL_law_445 : decode cL_law 445 = .ok (.aload_n 3, 1) := by decide +kernel
theorem dL_law_446 : decode cL_law 446 = .ok (.iconst 0, 1) := by decide +kernel
theorem dL_law_447 : decode cL_law 447 = .ok (.laload, 1) := by decide +kernel
theorem dL_law_448 : decode cL_law 448 = .ok (.iload 6, 2) := by decide +kernel
theorem dL_law_450 : decode cL_law 450 = .ok (.ifCond .eq 7, 3) := by decide +kernel
theorem dL_law_453 : decode cL_law 453 = .ok (.lconst 1, 1) := by decide +kernel
theorem dL_law_454 : decode cL_law 454 = .ok (.goto 4, 3) := by decide +kernel
theorem dL_law_457 : decode cL_law 457 = .ok (.lconst 0, 1) := by decide +kernel
theorem dL_law_458 : decode cL_law 458 = .ok (.lcmp, 1) := by decide +kernel
theorem dL_law_459 : decode cL_law 459 = .ok (.ifCond .eq 5, 3) := by decide +kernel
theorem dL_law_462 : decode cL_law 462 = .ok (.iconst 0, 1) := by decide +kernel
theorem dL_law_463 : decode cL_law 463 = .ok (.ireturn, 1) := by decide +kernel
theorem dL_law_464 : decode cL_law 464 = .ok (.goto 907, 3) := by decide +kernel
theorem dL_law_467 : decode cL_law 467 = .ok (.aload_n 1, 1) := by decide +kernel
theorem dL_law_468 : decode cL_law 468 = .ok (.aload_n 0, 1) := by decide +kernel
theorem dL_law_469 : decode cL_law 469 = .ok (.iload 4, 2) := by decide +kernel
theorem dL_law_471 : decode cL_law 471 = .ok (.iconst 1, 1) := by decide +kernel
theorem dL_law_472 : decode cL_law 472 = .ok (.iadd, 1) := by decide +kernel
theorem dL_law_473 : decode cL_law 473 = .ok (.iaload, 1) := by decide +kernel
theorem dL_law_474 : decode cL_law 474 = .ok (.aload_n 3, 1) := by decide +kernel
theorem dL_law_475 : decode cL_law 475 = .ok (.invokestatic 102, 3) := by decide +kernel
theorem dL_law_478 : decode cL_law 478 = .ok (.istore 5, 2) := by decide +kernel
theorem dL_law_480 : decode cL_law 480 = .ok (.aload_n 2, 1) := by decide +kernel
theorem dL_law_481 : decode cL_law 481 = .ok (.aload_n 0, 1) := by decide +kernel
theorem dL_law_482 : decode cL_law 482 = .ok (.iload 4, 2) := by decide +kernel
theorem dL_law_484 : decode cL_law 484 = .ok (.iconst 1, 1) := by decide +kernel
theorem dL_law_485 : decode cL_law 485 = .ok (.iadd, 1) := by decide +kernel
theorem dL_law_486 : decode cL_law 486 = .ok (.iaload, 1) := by decide +kernel
theorem dL_law_487 : decode cL_law 487 = .ok (.invokevirtual 104, 3) := by decide +kernel
theorem dL_law_490 : decode cL_law 490 = .ok (.istore 6, 2) := by decide +kernel
theorem dL_law_492 : decode cL_law 492 = .ok (.aload_n 2, 1) := by decide +kernel
theorem dL_law_493 : decode cL_law 493 = .ok (.invokevirtual 85, 3) := by decide +kernel
theorem dL_law_496 : decode cL_law 496 = .ok (.iload 5, 2) := by decide +kernel
theorem dL_law_498 : decode cL_law 498 = .ok (.if_icmp .eq 5, 3) := by decide +kernel
theorem dL_law_501 : decode cL_law 501 = .ok (.iconst 0, 1) := by decide +kernel
theorem dL_law_502 : decode cL_law 502 = .ok (.ireturn, 1) := by decide +kernel
theorem dL_law_503 : decode cL_law 503 = .ok (.iload 5, 2) := by decide +kernel
theorem dL_law_505 : decode cL_law 505 = .ok (.ifCond .ne 15, 3) := by decide +kernel
theorem dL_law_508 : decode cL_law 508 = .ok (.aload_n 3, 1) := by decide +kernel
theorem dL_law_509 : decode cL_law 509 = .ok (.iconst 0, 1) := by decide +kernel
theorem dL_law_510 : decode cL_law 510 = .ok (.laload, 1) := by decide +kernel
theorem dL_law_511 : decode cL_law 511 = .ok (.iload 6, 2) := by decide +kernel
theorem dL_law_513 : decode cL_law 513 = .ok (.i2l, 1) := by decide +kernel
theorem dL_law_514 : decode cL_law 514 = .ok (.lcmp, 1) := by decide +kernel
theorem dL_law_515 : decode cL_law 515 = .ok (.ifCond .eq 5, 3) := by decide +kernel
theorem dL_law_518 : decode cL_law 518 = .ok (.iconst 0, 1) := by decide +kernel
theorem dL_law_519 : decode cL_law 519 = .ok (.ireturn, 1) := by decide +kernel
theorem dL_law_520 : decode cL_law 520 = .ok (.goto 851, 3) := by decide +kernel
theorem dL_law_523 : decode cL_law 523 = .ok (.aload_n 1, 1) := by decide +kernel
theorem dL_law_524 : decode cL_law 524 = .ok (.aload_n 0, 1) := by decide +kernel
theorem dL_law_525 : decode cL_law 525 = .ok (.iload 4, 2) := by decide +kernel
theorem dL_law_527 : decode cL_law 527 = .ok (.iconst 1, 1) := by decide +kernel
theorem dL_law_528 : decode cL_law 528 = .ok (.iadd, 1) := by decide +kernel
theorem dL_law_529 : decode cL_law 529 = .ok (.iaload, 1) := by decide +kernel
theorem dL_law_530 : decode cL_law 530 = .ok (.aload_n 3, 1) := by decide +kernel
theorem dL_law_531 : decode cL_law 531 = .ok (.invokestatic 105, 3) := by decide +kernel
theorem dL_law_534 : decode cL_law 534 = .ok (.istore 5, 2) := by decide +kernel
theorem dL_law_536 : decode cL_law 536 = .ok (.aload_n 2, 1) := by decide +kernel
theorem dL_law_537 : decode cL_law 537 = .ok (.aload_n 0, 1) := by decide +kernel
theorem dL_law_538 : decode cL_law 538 = .ok (.iload 4, 2) := by decide +kernel
theorem dL_law_540 : decode cL_law 540 = .ok (.iconst 1, 1) := by decide +kernel
theorem dL_law_541 : decode cL_law 541 = .ok (.iadd, 1) := by decide +kernel
theorem dL_law_542 : decode cL_law 542 = .ok (.iaload, 1) := by decide +kernel
theorem dL_law_543 : decode cL_law 543 = .ok (.invokevirtual 107, 3) := by decide +kernel
theorem dL_law_546 : decode cL_law 546 = .ok (.istore 6, 2) := by decide +kernel
theorem dL_law_548 : decode cL_law 548 = .ok (.aload_n 2, 1) := by decide +kernel
theorem dL_law_549 : decode cL_law 549 = .ok (.invokevirtual 85, 3) := by decide +kernel
theorem dL_law_552 : decode cL_law 552 = .ok (.iload 5, 2) := by decide +kernel
theorem dL_law_554 : decode cL_law 554 = .ok (.if_icmp .eq 5, 3) := by decide +kernel
theorem dL_law_557 : decode cL_law 557 = .ok (.iconst 0, 1) := by decide +kernel
theorem dL_law_558 : decode cL_law 558 = .ok (.ireturn, 1) := by decide +kernel
theorem dL_law_559 : decode cL_law 559 = .ok (.iload 5, 2) := by decide +kernel
theorem dL_law_561 : decode cL_law 561 = .ok (.ifCond .ne 15, 3) := by decide +kernel
theorem dL_law_564 : decode cL_law 564 = .ok (.aload_n 3, 1) := by decide +kernel
theorem dL_law_565 : decode cL_law 565 = .ok (.iconst 0, 1) := by decide +kernel
theorem dL_law_566 : decode cL_law 566 = .ok (.laload, 1) := by decide +kernel
theorem dL_law_567 : decode cL_law 567 = .ok (.iload 6, 2) := by decide +kernel
theorem dL_law_569 : decode cL_law 569 = .ok (.i2l, 1) := by decide +kernel
theorem dL_law_570 : decode cL_law 570 = .ok (.lcmp, 1) := by decide +kernel
theorem dL_law_571 : decode cL_law 571 = .ok (.ifCond .eq 5, 3) := by decide +kernel
theorem dL_law_574 : decode cL_law 574 = .ok (.iconst 0, 1) := by decide +kernel
theorem dL_law_575 : decode cL_law 575 = .ok (.ireturn, 1) := by decide +kernel
theorem dL_law_576 : decode cL_law 576 = .ok (.goto 795, 3) := by decide +kernel
theorem dL_law_579 : decode cL_law 579 = .ok (.aload_n 1, 1) := by decide +kernel
theorem dL_law_580 : decode cL_law 580 = .ok (.aload_n 0, 1) := by decide +kernel
theorem dL_law_581 : decode cL_law 581 = .ok (.iload 4, 2) := by decide +kernel
theorem dL_law_583 : decode cL_law 583 = .ok (.iconst 1, 1) := by decide +kernel
theorem dL_law_584 : decode cL_law 584 = .ok (.iadd, 1) := by decide +kernel
theorem dL_law_585 : decode cL_law 585 = .ok (.iaload, 1) := by decide +kernel
theorem dL_law_586 : decode cL_law 586 = .ok (.aload_n 0, 1) := by decide +kernel
theorem dL_law_587 : decode cL_law 587 = .ok (.iload 4, 2) := by decide +kernel
theorem dL_law_589 : decode cL_law 589 = .ok (.iconst 2, 1) := by decide +kernel
theorem dL_law_590 : decode cL_law 590 = .ok (.iadd, 1) := by decide +kernel
theorem dL_law_591 : decode cL_law 591 = .ok (.iaload, 1) := by decide +kernel
theorem dL_law_592 : decode cL_law 592 = .ok (.aload_n 3, 1) := by decide +kernel
theorem dL_law_593 : decode cL_law 593 = .ok (.invokestatic 108, 3) := by decide +kernel
theorem dL_law_596 : decode cL_law 596 = .ok (.istore 5, 2) := by decide +kernel
theorem dL_law_598 : decode cL_law 598 = .ok (.aload_n 2, 1) := by decide +kernel
theorem dL_law_599 : decode cL_law 599 = .ok (.aload_n 0, 1) := by decide +kernel
theorem dL_law_600 : decode cL_law 600 = .ok (.iload 4, 2) := by decide +kernel
theorem dL_law_602 : decode cL_law 602 = .ok (.iconst 1, 1) := by decide +kernel
theorem dL_law_603 : decode cL_law 603 = .ok (.iadd, 1) := by decide +kernel
theorem dL_law_604 : decode cL_law 604 = .ok (.iaload, 1) := by decide +kernel
theorem dL_law_605 : decode cL_law 605 = .ok (.aload_n 0, 1) := by decide +kernel
theorem dL_law_606 : decode cL_law 606 = .ok (.iload 4, 2) := by decide +kernel
theorem dL_law_608 : decode cL_law 608 = .ok (.iconst 2, 1) := by decide +kernel
theorem dL_law_609 : decode cL_law 609 = .ok (.iadd, 1) := by decide +kernel
theorem dL_law_610 : decode cL_law 610 = .ok (.iaload, 1) := by decide +kernel
theorem dL_law_611 : decode cL_law 611 = .ok (.invokevirtual 111, 3) := by decide +kernel
theorem dL_law_614 : decode cL_law 614 = .ok (.istore 6, 2) := by decide +kernel
theorem dL_law_616 : decode cL_law 616 = .ok (.aload_n 2, 1) := by decide +kernel
theorem dL_law_617 : decode cL_law 617 = .ok (.invokevirtual 85, 3) := by decide +kernel
theorem dL_law_620 : decode cL_law 620 = .ok (.iload 5, 2) := by decide +kernel
theorem dL_law_622 : decode cL_law 622 = .ok (.if_icmp .eq 5, 3) := by decide +kernel
theorem dL_law_625 : decode cL_law 625 = .ok (.iconst 0, 1) := by decide +kernel
theorem dL_law_626 : decode cL_law 626 = .ok (.ireturn, 1) := by decide +kernel
theorem dL_law_627 : decode cL_law 627 = .ok (.iload 5, 2) := by decide +kernel
theorem dL_law_629 : decode cL_law 629 = .ok (.ifCond .ne 15, 3) := by decide +kernel
theorem dL_law_632 : decode cL_law 632 = .ok (.aload_n 3, 1) := by decide +kernel
theorem dL_law_633 : decode cL_law 633 = .ok (.iconst 0, 1) := by decide +kernel
theorem dL_law_634 : decode cL_law 634 = .ok (.laload, 1) := by decide +kernel
theorem dL_law_635 : decode cL_law 635 = .ok (.iload 6, 2) := by decide +kernel
theorem dL_law_637 : decode cL_law 637 = .ok (.i2l, 1) := by decide +kernel
theorem dL_law_638 : decode cL_law 638 = .ok (.lcmp, 1) := by decide +kernel
theorem dL_law_639 : decode cL_law 639 = .ok (.ifCond .eq 5, 3) := by decide +kernel
theorem dL_law_642 : decode cL_law 642 = .ok (.iconst 0, 1) := by decide +kernel
theorem dL_law_643 : decode cL_law 643 = .ok (.ireturn, 1) := by decide +kernel
theorem dL_law_644 : decode cL_law 644 = .ok (.goto 727, 3) := by decide +kernel
theorem dL_law_647 : decode cL_law 647 = .ok (.aload_n 1, 1) := by decide +kernel
theorem dL_law_648 : decode cL_law 648 = .ok (.aload_n 0, 1) := by decide +kernel
theorem dL_law_649 : decode cL_law 649 = .ok (.iload 4, 2) := by decide +kernel
theorem dL_law_651 : decode cL_law 651 = .ok (.iconst 1, 1) := by decide +kernel
theorem dL_law_652 : decode cL_law 652 = .ok (.iadd, 1) := by decide +kernel
theorem dL_law_653 : decode cL_law 653 = .ok (.iaload, 1) := by decide +kernel
theorem dL_law_654 : decode cL_law 654 = .ok (.aload_n 3, 1) := by decide +kernel
theorem dL_law_655 : decode cL_law 655 = .ok (.invokestatic 112, 3) := by decide +kernel
theorem dL_law_658 : decode cL_law 658 = .ok (.istore 5, 2) := by decide +kernel
theorem dL_law_660 : decode cL_law 660 = .ok (.aload_n 2, 1) := by decide +kernel
theorem dL_law_661 : decode cL_law 661 = .ok (.aload_n 0, 1) := by decide +kernel
theorem dL_law_662 : decode cL_law 662 = .ok (.iload 4, 2) := by decide +kernel
theorem dL_law_664 : decode cL_law 664 = .ok (.iconst 1, 1) := by decide +kernel
theorem dL_law_665 : decode cL_law 665 = .ok (.iadd, 1) := by decide +kernel
theorem dL_law_666 : decode cL_law 666 = .ok (.iaload, 1) := by decide +kernel
theorem dL_law_667 : decode cL_law 667 = .ok (.invokevirtual 114, 3) := by decide +kernel
theorem dL_law_670 : decode cL_law 670 = .ok (.istore 6, 2) := by decide +kernel
theorem dL_law_672 : decode cL_law 672 = .ok (.aload_n 2, 1) := by decide +kernel
theorem dL_law_673 : decode cL_law 673 = .ok (.invokevirtual 85, 3) := by decide +kernel
theorem dL_law_676 : decode cL_law 676 = .ok (.iload 5, 2) := by decide +kernel
theorem dL_law_678 : decode cL_law 678 = .ok (.if_icmp .eq 5, 3) := by decide +kernel
theorem dL_law_681 : decode cL_law 681 = .ok (.iconst 0, 1) := by decide +kernel
theorem dL_law_682 : decode cL_law 682 = .ok (.ireturn, 1) := by decide +kernel
theorem dL_law_683 : decode cL_law 683 = .ok (.iload 5, 2) := by decide +kernel
theorem dL_law_685 : decode cL_law 685 = .ok (.ifCond .ne 15, 3) := by decide +kernel
theorem dL_law_688 : decode cL_law 688 = .ok (.aload_n 3, 1) := by decide +kernel
theorem dL_law_689 : decode cL_law 689 = .ok (.iconst 0, 1) := by decide +kernel
theorem dL_law_690 : decode cL_law 690 = .ok (.laload, 1) := by decide +kernel
theorem dL_law_691 : decode cL_law 691 = .ok (.iload 6, 2) := by decide +kernel
theorem dL_law_693 : decode cL_law 693 = .ok (.i2l, 1) := by decide +kernel
theorem dL_law_694 : decode cL_law 694 = .ok (.lcmp, 1) := by decide +kernel
theorem dL_law_695 : decode cL_law 695 = .ok (.ifCond .eq 5, 3) := by decide +kernel
theorem dL_law_698 : decode cL_law 698 = .ok (.iconst 0, 1) := by decide +kernel
theorem dL_law_699 : decode cL_law 699 = .ok (.ireturn, 1) := by decide +kernel
theorem dL_law_700 : decode cL_law 700 = .ok (.goto 671, 3) := by decide +kernel
theorem dL_law_703 : decode cL_law 703 = .ok (.aload_n 1, 1) := by decide +kernel
theorem dL_law_704 : decode cL_law 704 = .ok (.aload_n 0, 1) := by decide +kernel
theorem dL_law_705 : decode cL_law 705 = .ok (.iload 4, 2) := by decide +kernel
theorem dL_law_707 : decode cL_law 707 = .ok (.iconst 1, 1) := by decide +kernel
theorem dL_law_708 : decode cL_law 708 = .ok (.iadd, 1) := by decide +kernel
theorem dL_law_709 : decode cL_law 709 = .ok (.iaload, 1) := by decide +kernel
theorem dL_law_710 : decode cL_law 710 = .ok (.aload_n 3, 1) := by decide +kernel
theorem dL_law_711 : decode cL_law 711 = .ok (.invokestatic 115, 3) := by decide +kernel
theorem dL_law_714 : decode cL_law 714 = .ok (.istore 5, 2) := by decide +kernel
theorem dL_law_716 : decode cL_law 716 = .ok (.aload_n 2, 1) := by decide +kernel
theorem dL_law_717 : decode cL_law 717 = .ok (.aload_n 0, 1) := by decide +kernel
theorem dL_law_718 : decode cL_law 718 = .ok (.iload 4, 2) := by decide +kernel
theorem dL_law_720 : decode cL_law 720 = .ok (.iconst 1, 1) := by decide +kernel
theorem dL_law_721 : decode cL_law 721 = .ok (.iadd, 1) := by decide +kernel
theorem dL_law_722 : decode cL_law 722 = .ok (.iaload, 1) := by decide +kernel
theorem dL_law_723 : decode cL_law 723 = .ok (.invokevirtual 117, 3) := by decide +kernel
theorem dL_law_726 : decode cL_law 726 = .ok (.istore 6, 2) := by decide +kernel
theorem dL_law_728 : decode cL_law 728 = .ok (.aload_n 2, 1) := by decide +kernel
theorem dL_law_729 : decode cL_law 729 = .ok (.invokevirtual 85, 3) := by decide +kernel
theorem dL_law_732 : decode cL_law 732 = .ok (.iload 5, 2) := by decide +kernel
theorem dL_law_734 : decode cL_law 734 = .ok (.if_icmp .eq 5, 3) := by decide +kernel
theorem dL_law_737 : decode cL_law 737 = .ok (.iconst 0, 1) := by decide +kernel
theorem dL_law_738 : decode cL_law 738 = .ok (.ireturn, 1) := by decide +kernel
theorem dL_law_739 : decode cL_law 739 = .ok (.iload 5, 2) := by decide +kernel
theorem dL_law_741 : decode cL_law 741 = .ok (.ifCond .ne 15, 3) := by decide +kernel
theorem dL_law_744 : decode cL_law 744 = .ok (.aload_n 3, 1) := by decide +kernel
theorem dL_law_745 : decode cL_law 745 = .ok (.iconst 0, 1) := by decide +kernel
theorem dL_law_746 : decode cL_law 746 = .ok (.laload, 1) := by decide +kernel
theorem dL_law_747 : decode cL_law 747 = .ok (.iload 6, 2) := by decide +kernel
theorem dL_law_749 : decode cL_law 749 = .ok (.i2l, 1) := by decide +kernel
theorem dL_law_750 : decode cL_law 750 = .ok (.lcmp, 1) := by decide +kernel
theorem dL_law_751 : decode cL_law 751 = .ok (.ifCond .eq 5, 3) := by decide +kernel
theorem dL_law_754 : decode cL_law 754 = .ok (.iconst 0, 1) := by decide +kernel
theorem dL_law_755 : decode cL_law 755 = .ok (.ireturn, 1) := by decide +kernel
theorem dL_law_756 : decode cL_law 756 = .ok (.goto 615, 3) := by decide +kernel
theorem dL_law_759 : decode cL_law 759 = .ok (.aload_n 1, 1) := by decide +kernel
theorem dL_law_760 : decode cL_law 760 = .ok (.aload_n 0, 1) := by decide +kernel
theorem dL_law_761 : decode cL_law 761 = .ok (.iload 4, 2) := by decide +kernel
theorem dL_law_763 : decode cL_law 763 = .ok (.iconst 1, 1) := by decide +kernel
theorem dL_law_764 : decode cL_law 764 = .ok (.iadd, 1) := by decide +kernel
theorem dL_law_765 : decode cL_law 765 = .ok (.iaload, 1) := by decide +kernel
theorem dL_law_766 : decode cL_law 766 = .ok (.aload_n 0, 1) := by decide +kernel
theorem dL_law_767 : decode cL_law 767 = .ok (.iload 4, 2) := by decide +kernel
theorem dL_law_769 : decode cL_law 769 = .ok (.iconst 2, 1) := by decide +kernel
theorem dL_law_770 : decode cL_law 770 = .ok (.iadd, 1) := by decide +kernel
theorem dL_law_771 : decode cL_law 771 = .ok (.iaload, 1) := by decide +kernel
theorem dL_law_772 : decode cL_law 772 = .ok (.aload_n 3, 1) := by decide +kernel
theorem dL_law_773 : decode cL_law 773 = .ok (.invokestatic 118, 3) := by decide +kernel
theorem dL_law_776 : decode cL_law 776 = .ok (.istore 5, 2) := by decide +kernel
theorem dL_law_778 : decode cL_law 778 = .ok (.aload_n 2, 1) := by decide +kernel
theorem dL_law_779 : decode cL_law 779 = .ok (.aload_n 0, 1) := by decide +kernel
theorem dL_law_780 : decode cL_law 780 = .ok (.iload 4, 2) := by decide +kernel
theorem dL_law_782 : decode cL_law 782 = .ok (.iconst 1, 1) := by decide +kernel
theorem dL_law_783 : decode cL_law 783 = .ok (.iadd, 1) := by decide +kernel
theorem dL_law_784 : decode cL_law 784 = .ok (.iaload, 1) := by decide +kernel
theorem dL_law_785 : decode cL_law 785 = .ok (.aload_n 0, 1) := by decide +kernel
theorem dL_law_786 : decode cL_law 786 = .ok (.iload 4, 2) := by decide +kernel
theorem dL_law_788 : decode cL_law 788 = .ok (.iconst 2, 1) := by decide +kernel
theorem dL_law_789 : decode cL_law 789 = .ok (.iadd, 1) := by decide +kernel
theorem dL_law_790 : decode cL_law 790 = .ok (.iaload, 1) := by decide +kernel
theorem dL_law_791 : decode cL_law 791 = .ok (.invokevirtual 120, 3) := by decide +kernel
theorem dL_law_794 : decode cL_law 794 = .ok (.istore 6, 2) := by decide +kernel
theorem dL_law_796 : decode cL_law 796 = .ok (.aload_n 2, 1) := by decide +kernel
theorem dL_law_797 : decode cL_law 797 = .ok (.invokevirtual 85, 3) := by decide +kernel
theorem dL_law_800 : decode cL_law 800 = .ok (.iload 5, 2) := by decide +kernel
theorem dL_law_802 : decode cL_law 802 = .ok (.if_icmp .eq 5, 3) := by decide +kernel
theorem dL_law_805 : decode cL_law 805 = .ok (.iconst 0, 1) := by decide +kernel
theorem dL_law_806 : decode cL_law 806 = .ok (.ireturn, 1) := by decide +kernel
theorem dL_law_807 : decode cL_law 807 = .ok (.iload 5, 2) := by decide +kernel
theorem dL_law_809 : decode cL_law 809 = .ok (.ifCond .ne 15, 3) := by decide +kernel
theorem dL_law_812 : decode cL_law 812 = .ok (.aload_n 3, 1) := by decide +kernel
theorem dL_law_813 : decode cL_law 813 = .ok (.iconst 0, 1) := by decide +kernel
theorem dL_law_814 : decode cL_law 814 = .ok (.laload, 1) := by decide +kernel
theorem dL_law_815 : decode cL_law 815 = .ok (.iload 6, 2) := by decide +kernel
theorem dL_law_817 : decode cL_law 817 = .ok (.i2l, 1) := by decide +kernel
theorem dL_law_818 : decode cL_law 818 = .ok (.lcmp, 1) := by decide +kernel
theorem dL_law_819 : decode cL_law 819 = .ok (.ifCond .eq 5, 3) := by decide +kernel
theorem dL_law_822 : decode cL_law 822 = .ok (.iconst 0, 1) := by decide +kernel
theorem dL_law_823 : decode cL_law 823 = .ok (.ireturn, 1) := by decide +kernel
theorem dL_law_824 : decode cL_law 824 = .ok (.goto 547, 3) := by decide +kernel
theorem dL_law_827 : decode cL_law 827 = .ok (.aload_n 1, 1) := by decide +kernel
theorem dL_law_828 : decode cL_law 828 = .ok (.aload_n 0, 1) := by decide +kernel
theorem dL_law_829 : decode cL_law 829 = .ok (.iload 4, 2) := by decide +kernel
theorem dL_law_831 : decode cL_law 831 = .ok (.iconst 1, 1) := by decide +kernel
theorem dL_law_832 : decode cL_law 832 = .ok (.iadd, 1) := by decide +kernel
theorem dL_law_833 : decode cL_law 833 = .ok (.iaload, 1) := by decide +kernel
theorem dL_law_834 : decode cL_law 834 = .ok (.aload_n 0, 1) := by decide +kernel
theorem dL_law_835 : decode cL_law 835 = .ok (.iload 4, 2) := by decide +kernel
theorem dL_law_837 : decode cL_law 837 = .ok (.iconst 2, 1) := by decide +kernel
theorem dL_law_838 : decode cL_law 838 = .ok (.iadd, 1) := by decide +kernel
theorem dL_law_839 : decode cL_law 839 = .ok (.iaload, 1) := by decide +kernel
theorem dL_law_840 : decode cL_law 840 = .ok (.aload_n 0, 1) := by decide +kernel
theorem dL_law_841 : decode cL_law 841 = .ok (.iload 4, 2) := by decide +kernel
theorem dL_law_843 : decode cL_law 843 = .ok (.iconst 3, 1) := by decide +kernel
theorem dL_law_844 : decode cL_law 844 = .ok (.iadd, 1) := by decide +kernel
theorem dL_law_845 : decode cL_law 845 = .ok (.iaload, 1) := by decide +kernel
theorem dL_law_846 : decode cL_law 846 = .ok (.aload_n 3, 1) := by decide +kernel
theorem dL_law_847 : decode cL_law 847 = .ok (.invokestatic 121, 3) := by decide +kernel
theorem dL_law_850 : decode cL_law 850 = .ok (.istore 5, 2) := by decide +kernel
theorem dL_law_852 : decode cL_law 852 = .ok (.aload_n 2, 1) := by decide +kernel
theorem dL_law_853 : decode cL_law 853 = .ok (.aload_n 0, 1) := by decide +kernel
theorem dL_law_854 : decode cL_law 854 = .ok (.iload 4, 2) := by decide +kernel
theorem dL_law_856 : decode cL_law 856 = .ok (.iconst 1, 1) := by decide +kernel
theorem dL_law_857 : decode cL_law 857 = .ok (.iadd, 1) := by decide +kernel
theorem dL_law_858 : decode cL_law 858 = .ok (.iaload, 1) := by decide +kernel
theorem dL_law_859 : decode cL_law 859 = .ok (.aload_n 0, 1) := by decide +kernel
theorem dL_law_860 : decode cL_law 860 = .ok (.iload 4, 2) := by decide +kernel
theorem dL_law_862 : decode cL_law 862 = .ok (.iconst 2, 1) := by decide +kernel
theorem dL_law_863 : decode cL_law 863 = .ok (.iadd, 1) := by decide +kernel
theorem dL_law_864 : decode cL_law 864 = .ok (.iaload, 1) := by decide +kernel
theorem dL_law_865 : decode cL_law 865 = .ok (.aload_n 0, 1) := by decide +kernel
theorem dL_law_866 : decode cL_law 866 = .ok (.iload 4, 2) := by decide +kernel
theorem dL_law_868 : decode cL_law 868 = .ok (.iconst 3, 1) := by decide +kernel
theorem dL_law_869 : decode cL_law 869 = .ok (.iadd, 1) := by decide +kernel
theorem dL_law_870 : decode cL_law 870 = .ok (.iaload, 1) := by decide +kernel
theorem dL_law_871 : decode cL_law 871 = .ok (.invokevirtual 124, 3) := by decide +kernel
theorem dL_law_874 : decode cL_law 874 = .ok (.istore 6, 2) := by decide +kernel
theorem dL_law_876 : decode cL_law 876 = .ok (.aload_n 2, 1) := by decide +kernel
theorem dL_law_877 : decode cL_law 877 = .ok (.invokevirtual 85, 3) := by decide +kernel
theorem dL_law_880 : decode cL_law 880 = .ok (.iload 5, 2) := by decide +kernel
theorem dL_law_882 : decode cL_law 882 = .ok (.if_icmp .eq 5, 3) := by decide +kernel
theorem dL_law_885 : decode cL_law 885 = .ok (.iconst 0, 1) := by decide +kernel
theorem dL_law_886 : decode cL_law 886 = .ok (.ireturn, 1) := by decide +kernel
theorem dL_law_887 : decode cL_law 887 = .ok (.iload 5, 2) := by decide +kernel
theorem dL_law_889 : decode cL_law 889 = .ok (.ifCond .ne 15, 3) := by decide +kernel
theorem dL_law_892 : decode cL_law 892 = .ok (.aload_n 3, 1) := by decide +kernel
theorem dL_law_893 : decode cL_law 893 = .ok (.iconst 0, 1) := by decide +kernel
theorem dL_law_894 : decode cL_law 894 = .ok (.laload, 1) := by decide +kernel
theorem dL_law_895 : decode cL_law 895 = .ok (.iload 6, 2) := by decide +kernel
theorem dL_law_897 : decode cL_law 897 = .ok (.i2l, 1) := by decide +kernel
theorem dL_law_898 : decode cL_law 898 = .ok (.lcmp, 1) := by decide +kernel
theorem dL_law_899 : decode cL_law 899 = .ok (.ifCond .eq 5, 3) := by decide +kernel
theorem dL_law_902 : decode cL_law 902 = .ok (.iconst 0, 1) := by decide +kernel
theorem dL_law_903 : decode cL_law 903 = .ok (.ireturn, 1) := by decide +kernel
theorem dL_law_904 : decode cL_law 904 = .ok (.goto 467, 3) := by decide +kernel
theorem dL_law_907 : decode cL_law 907 = .ok (.aload_n 1, 1) := by decide +kernel
theorem dL_law_908 : decode cL_law 908 = .ok (.invokevirtual 125, 3) := by decide +kernel
theorem dL_law_911 : decode cL_law 911 = .ok (.aload_n 2, 1) := by decide +kernel
theorem dL_law_912 : decode cL_law 912 = .ok (.invokevirtual 128, 3) := by decide +kernel
theorem dL_law_915 : decode cL_law 915 = .ok (.if_icmp .eq 456, 3) := by decide +kernel
theorem dL_law_918 : decode cL_law 918 = .ok (.iconst 0, 1) := by decide +kernel
theorem dL_law_919 : decode cL_law 919 = .ok (.ireturn, 1) := by decide +kernel
theorem dL_law_920 : decode cL_law 920 = .ok (.aload_n 1, 1) := by decide +kernel
theorem dL_law_921 : decode cL_law 921 = .ok (.aload_n 0, 1) := by decide +kernel
theorem dL_law_922 : decode cL_law 922 = .ok (.iload 4, 2) := by decide +kernel
theorem dL_law_924 : decode cL_law 924 = .ok (.iconst 1, 1) := by decide +kernel
theorem dL_law_925 : decode cL_law 925 = .ok (.iadd, 1) := by decide +kernel
theorem dL_law_926 : decode cL_law 926 = .ok (.iaload, 1) := by decide +kernel
theorem dL_law_927 : decode cL_law 927 = .ok (.aload_n 0, 1) := by decide +kernel
theorem dL_law_928 : decode cL_law 928 = .ok (.iload 4, 2) := by decide +kernel
theorem dL_law_930 : decode cL_law 930 = .ok (.iconst 2, 1) := by decide +kernel
theorem dL_law_931 : decode cL_law 931 = .ok (.iadd, 1) := by decide +kernel
theorem dL_law_932 : decode cL_law 932 = .ok (.iaload, 1) := by decide +kernel
theorem dL_law_933 : decode cL_law 933 = .ok (.aload_n 3, 1) := by decide +kernel
theorem dL_law_934 : decode cL_law 934 = .ok (.invokestatic 129, 3) := by decide +kernel
theorem dL_law_937 : decode cL_law 937 = .ok (.istore 5, 2) := by decide +kernel
theorem dL_law_939 : decode cL_law 939 = .ok (.aload_n 2, 1) := by decide +kernel
theorem dL_law_940 : decode cL_law 940 = .ok (.aload_n 0, 1) := by decide +kernel
theorem dL_law_941 : decode cL_law 941 = .ok (.iload 4, 2) := by decide +kernel
theorem dL_law_943 : decode cL_law 943 = .ok (.iconst 1, 1) := by decide +kernel
theorem dL_law_944 : decode cL_law 944 = .ok (.iadd, 1) := by decide +kernel
theorem dL_law_945 : decode cL_law 945 = .ok (.iaload, 1) := by decide +kernel
theorem dL_law_946 : decode cL_law 946 = .ok (.aload_n 0, 1) := by decide +kernel
theorem dL_law_947 : decode cL_law 947 = .ok (.iload 4, 2) := by decide +kernel
theorem dL_law_949 : decode cL_law 949 = .ok (.iconst 2, 1) := by decide +kernel
theorem dL_law_950 : decode cL_law 950 = .ok (.iadd, 1) := by decide +kernel
theorem dL_law_951 : decode cL_law 951 = .ok (.iaload, 1) := by decide +kernel
theorem dL_law_952 : decode cL_law 952 = .ok (.invokevirtual 131, 3) := by decide +kernel
theorem dL_law_955 : decode cL_law 955 = .ok (.istore 6, 2) := by decide +kernel
theorem dL_law_957 : decode cL_law 957 = .ok (.aload_n 2, 1) := by decide +kernel
theorem dL_law_958 : decode cL_law 958 = .ok (.invokevirtual 85, 3) := by decide +kernel
theorem dL_law_961 : decode cL_law 961 = .ok (.iload 5, 2) := by decide +kernel
theorem dL_law_963 : decode cL_law 963 = .ok (.if_icmp .eq 5, 3) := by decide +kernel
theorem dL_law_966 : decode cL_law 966 = .ok (.iconst 0, 1) := by decide +kernel
theorem dL_law_967 : decode cL_law 967 = .ok (.ireturn, 1) := by decide +kernel
theorem dL_law_968 : decode cL_law 968 = .ok (.iload 5, 2) := by decide +kernel
theorem dL_law_970 : decode cL_law 970 = .ok (.ifCond .ne 15, 3) := by decide +kernel
theorem dL_law_973 : decode cL_law 973 = .ok (.aload_n 3, 1) := by decide +kernel
theorem dL_law_974 : decode cL_law 974 = .ok (.iconst 0, 1) := by decide +kernel
theorem dL_law_975 : decode cL_law 975 = .ok (.laload, 1) := by decide +kernel
theorem dL_law_976 : decode cL_law 976 = .ok (.iload 6, 2) := by decide +kernel
theorem dL_law_978 : decode cL_law 978 = .ok (.i2l, 1) := by decide +kernel
theorem dL_law_979 : decode cL_law 979 = .ok (.lcmp, 1) := by decide +kernel
theorem dL_law_980 : decode cL_law 980 = .ok (.ifCond .eq 5, 3) := by decide +kernel
theorem dL_law_983 : decode cL_law 983 = .ok (.iconst 0, 1) := by decide +kernel
theorem dL_law_984 : decode cL_law 984 = .ok (.ireturn, 1) := by decide +kernel
theorem dL_law_985 : decode cL_law 985 = .ok (.goto 386, 3) := by decide +kernel
theorem dL_law_988 : decode cL_law 988 = .ok (.aload_n 1, 1) := by decide +kernel
theorem dL_law_989 : decode cL_law 989 = .ok (.aload_n 0, 1) := by decide +kernel
theorem dL_law_990 : decode cL_law 990 = .ok (.iload 4, 2) := by decide +kernel
theorem dL_law_992 : decode cL_law 992 = .ok (.iconst 1, 1) := by decide +kernel
theorem dL_law_993 : decode cL_law 993 = .ok (.iadd, 1) := by decide +kernel
theorem dL_law_994 : decode cL_law 994 = .ok (.iaload, 1) := by decide +kernel
theorem dL_law_995 : decode cL_law 995 = .ok (.aload_n 3, 1) := by decide +kernel
theorem dL_law_996 : decode cL_law 996 = .ok (.invokestatic 132, 3) := by decide +kernel
theorem dL_law_999 : decode cL_law 999 = .ok (.istore 5, 2) := by decide +kernel
theorem dL_law_1001 : decode cL_law 1001 = .ok (.aload_n 2, 1) := by decide +kernel
theorem dL_law_1002 : decode cL_law 1002 = .ok (.aload_n 0, 1) := by decide +kernel
theorem dL_law_1003 : decode cL_law 1003 = .ok (.iload 4, 2) := by decide +kernel
theorem dL_law_1005 : decode cL_law 1005 = .ok (.iconst 1, 1) := by decide +kernel
theorem dL_law_1006 : decode cL_law 1006 = .ok (.iadd, 1) := by decide +kernel
theorem dL_law_1007 : decode cL_law 1007 = .ok (.iaload, 1) := by decide +kernel
theorem dL_law_1008 : decode cL_law 1008 = .ok (.invokevirtual 134, 3) := by decide +kernel
theorem dL_law_1011 : decode cL_law 1011 = .ok (.istore 6, 2) := by decide +kernel
theorem dL_law_1013 : decode cL_law 1013 = .ok (.aload_n 2, 1) := by decide +kernel
theorem dL_law_1014 : decode cL_law 1014 = .ok (.invokevirtual 85, 3) := by decide +kernel
theorem dL_law_1017 : decode cL_law 1017 = .ok (.iload 5, 2) := by decide +kernel
theorem dL_law_1019 : decode cL_law 1019 = .ok (.if_icmp .eq 5, 3) := by decide +kernel
theorem dL_law_1022 : decode cL_law 1022 = .ok (.iconst 0, 1) := by decide +kernel
theorem dL_law_1023 : decode cL_law 1023 = .ok (.ireturn, 1) := by decide +kernel
theorem dL_law_1024 : decode cL_law 1024 = .ok (.iload 5, 2) := by decide +kernel
theorem dL_law_1026 : decode cL_law 1026 = .ok (.ifCond .ne 15, 3) := by decide +kernel
theorem dL_law_1029 : decode cL_law 1029 = .ok (.aload_n 3, 1) := by decide +kernel
theorem dL_law_1030 : decode cL_law 1030 = .ok (.iconst 0, 1) := by decide +kernel
theorem dL_law_1031 : decode cL_law 1031 = .ok (.laload, 1) := by decide +kernel
theorem dL_law_1032 : decode cL_law 1032 = .ok (.iload 6, 2) := by decide +kernel
theorem dL_law_1034 : decode cL_law 1034 = .ok (.i2l, 1) := by decide +kernel
theorem dL_law_1035 : decode cL_law 1035 = .ok (.lcmp, 1) := by decide +kernel
theorem dL_law_1036 : decode cL_law 1036 = .ok (.ifCond .eq 5, 3) := by decide +kernel
theorem dL_law_1039 : decode cL_law 1039 = .ok (.iconst 0, 1) := by decide +kernel
theorem dL_law_1040 : decode cL_law 1040 = .ok (.ireturn, 1) := by decide +kernel
theorem dL_law_1041 : decode cL_law 1041 = .ok (.goto 330, 3) := by decide +kernel
theorem dL_law_1044 : decode cL_law 1044 = .ok (.aload_n 1, 1) := by decide +kernel
theorem dL_law_1045 : decode cL_law 1045 = .ok (.invokevirtual 135, 3) := by decide +kernel
theorem dL_law_1048 : decode cL_law 1048 = .ok (.aload_n 2, 1) := by decide +kernel
theorem dL_law_1049 : decode cL_law 1049 = .ok (.invokevirtual 138, 3) := by decide +kernel
theorem dL_law_1052 : decode cL_law 1052 = .ok (.if_icmp .eq 319, 3) := by decide +kernel
theorem dL_law_1055 : decode cL_law 1055 = .ok (.iconst 0, 1) := by decide +kernel
theorem dL_law_1056 : decode cL_law 1056 = .ok (.ireturn, 1) := by decide +kernel
theorem dL_law_1057 : decode cL_law 1057 = .ok (.aload_n 1, 1) := by decide +kernel
theorem dL_law_1058 : decode cL_law 1058 = .ok (.aload_n 0, 1) := by decide +kernel
theorem dL_law_1059 : decode cL_law 1059 = .ok (.iload 4, 2) := by decide +kernel
theorem dL_law_1061 : decode cL_law 1061 = .ok (.iconst 1, 1) := by decide +kernel
theorem dL_law_1062 : decode cL_law 1062 = .ok (.iadd, 1) := by decide +kernel
theorem dL_law_1063 : decode cL_law 1063 = .ok (.iaload, 1) := by decide +kernel
theorem dL_law_1064 : decode cL_law 1064 = .ok (.aload_n 0, 1) := by decide +kernel
theorem dL_law_1065 : decode cL_law 1065 = .ok (.iload 4, 2) := by decide +kernel
theorem dL_law_1067 : decode cL_law 1067 = .ok (.iconst 2, 1) := by decide +kernel
theorem dL_law_1068 : decode cL_law 1068 = .ok (.iadd, 1) := by decide +kernel
theorem dL_law_1069 : decode cL_law 1069 = .ok (.iaload, 1) := by decide +kernel
theorem dL_law_1070 : decode cL_law 1070 = .ok (.aload_n 3, 1) := by decide +kernel
theorem dL_law_1071 : decode cL_law 1071 = .ok (.invokestatic 139, 3) := by decide +kernel
theorem dL_law_1074 : decode cL_law 1074 = .ok (.istore 5, 2) := by decide +kernel
theorem dL_law_1076 : decode cL_law 1076 = .ok (.aload_n 2, 1) := by decide +kernel
theorem dL_law_1077 : decode cL_law 1077 = .ok (.aload_n 0, 1) := by decide +kernel
theorem dL_law_1078 : decode cL_law 1078 = .ok (.iload 4, 2) := by decide +kernel
theorem dL_law_1080 : decode cL_law 1080 = .ok (.iconst 1, 1) := by decide +kernel
theorem dL_law_1081 : decode cL_law 1081 = .ok (.iadd, 1) := by decide +kernel
theorem dL_law_1082 : decode cL_law 1082 = .ok (.iaload, 1) := by decide +kernel
theorem dL_law_1083 : decode cL_law 1083 = .ok (.aload_n 0, 1) := by decide +kernel
theorem dL_law_1084 : decode cL_law 1084 = .ok (.iload 4, 2) := by decide +kernel
theorem dL_law_1086 : decode cL_law 1086 = .ok (.iconst 2, 1) := by decide +kernel
theorem dL_law_1087 : decode cL_law 1087 = .ok (.iadd, 1) := by decide +kernel
theorem dL_law_1088 : decode cL_law 1088 = .ok (.iaload, 1) := by decide +kernel
theorem dL_law_1089 : decode cL_law 1089 = .ok (.invokevirtual 141, 3) := by decide +kernel
theorem dL_law_1092 : decode cL_law 1092 = .ok (.istore 6, 2) := by decide +kernel
theorem dL_law_1094 : decode cL_law 1094 = .ok (.aload_n 2, 1) := by decide +kernel
theorem dL_law_1095 : decode cL_law 1095 = .ok (.invokevirtual 85, 3) := by decide +kernel
theorem dL_law_1098 : decode cL_law 1098 = .ok (.iload 5, 2) := by decide +kernel
theorem dL_law_1100 : decode cL_law 1100 = .ok (.if_icmp .eq 5, 3) := by decide +kernel
theorem dL_law_1103 : decode cL_law 1103 = .ok (.iconst 0, 1) := by decide +kernel
theorem dL_law_1104 : decode cL_law 1104 = .ok (.ireturn, 1) := by decide +kernel
theorem dL_law_1105 : decode cL_law 1105 = .ok (.iload 5, 2) := by decide +kernel
theorem dL_law_1107 : decode cL_law 1107 = .ok (.ifCond .ne 15, 3) := by decide +kernel
theorem dL_law_1110 : decode cL_law 1110 = .ok (.aload_n 3, 1) := by decide +kernel
theorem dL_law_1111 : decode cL_law 1111 = .ok (.iconst 0, 1) := by decide +kernel
theorem dL_law_1112 : decode cL_law 1112 = .ok (.laload, 1) := by decide +kernel
theorem dL_law_1113 : decode cL_law 1113 = .ok (.iload 6, 2) := by decide +kernel
theorem dL_law_1115 : decode cL_law 1115 = .ok (.i2l, 1) := by decide +kernel
theorem dL_law_1116 : decode cL_law 1116 = .ok (.lcmp, 1) := by decide +kernel
theorem dL_law_1117 : decode cL_law 1117 = .ok (.ifCond .eq 5, 3) := by decide +kernel
theorem dL_law_1120 : decode cL_law 1120 = .ok (.iconst 0, 1) := by decide +kernel
theorem dL_law_1121 : decode cL_law 1121 = .ok (.ireturn, 1) := by decide +kernel
theorem dL_law_1122 : decode cL_law 1122 = .ok (.goto 249, 3) := by decide +kernel
theorem dL_law_1125 : decode cL_law 1125 = .ok (.aload_n 1, 1) := by decide +kernel
theorem dL_law_1126 : decode cL_law 1126 = .ok (.invokevirtual 142, 3) := by decide +kernel
theorem dL_law_1129 : decode cL_law 1129 = .ok (.aload_n 2, 1) := by decide +kernel
theorem dL_law_1130 : decode cL_law 1130 = .ok (.invokevirtual 146, 3) := by decide +kernel
theorem dL_law_1133 : decode cL_law 1133 = .ok (.if_icmp .eq 238, 3) := by decide +kernel
theorem dL_law_1136 : decode cL_law 1136 = .ok (.iconst 0, 1) := by decide +kernel
theorem dL_law_1137 : decode cL_law 1137 = .ok (.ireturn, 1) := by decide +kernel
theorem dL_law_1138 : decode cL_law 1138 = .ok (.aload_n 1, 1) := by decide +kernel
theorem dL_law_1139 : decode cL_law 1139 = .ok (.invokevirtual 147, 3) := by decide +kernel
theorem dL_law_1142 : decode cL_law 1142 = .ok (.aload_n 2, 1) := by decide +kernel
theorem dL_law_1143 : decode cL_law 1143 = .ok (.invokevirtual 150, 3) := by decide +kernel
theorem dL_law_1146 : decode cL_law 1146 = .ok (.if_icmp .eq 225, 3) := by decide +kernel
theorem dL_law_1149 : decode cL_law 1149 = .ok (.iconst 0, 1) := by decide +kernel
theorem dL_law_1150 : decode cL_law 1150 = .ok (.ireturn, 1) := by decide +kernel
theorem dL_law_1151 : decode cL_law 1151 = .ok (.aload_n 1, 1) := by decide +kernel
theorem dL_law_1152 : decode cL_law 1152 = .ok (.aload_n 0, 1) := by decide +kernel
theorem dL_law_1153 : decode cL_law 1153 = .ok (.iload 4, 2) := by decide +kernel
theorem dL_law_1155 : decode cL_law 1155 = .ok (.iconst 1, 1) := by decide +kernel
theorem dL_law_1156 : decode cL_law 1156 = .ok (.iadd, 1) := by decide +kernel
theorem dL_law_1157 : decode cL_law 1157 = .ok (.iaload, 1) := by decide +kernel
theorem dL_law_1158 : decode cL_law 1158 = .ok (.aload_n 3, 1) := by decide +kernel
theorem dL_law_1159 : decode cL_law 1159 = .ok (.invokestatic 151, 3) := by decide +kernel
theorem dL_law_1162 : decode cL_law 1162 = .ok (.istore 5, 2) := by decide +kernel
theorem dL_law_1164 : decode cL_law 1164 = .ok (.aload_n 2, 1) := by decide +kernel
theorem dL_law_1165 : decode cL_law 1165 = .ok (.aload_n 0, 1) := by decide +kernel
theorem dL_law_1166 : decode cL_law 1166 = .ok (.iload 4, 2) := by decide +kernel
theorem dL_law_1168 : decode cL_law 1168 = .ok (.iconst 1, 1) := by decide +kernel
theorem dL_law_1169 : decode cL_law 1169 = .ok (.iadd, 1) := by decide +kernel
theorem dL_law_1170 : decode cL_law 1170 = .ok (.iaload, 1) := by decide +kernel
theorem dL_law_1171 : decode cL_law 1171 = .ok (.invokevirtual 153, 3) := by decide +kernel
theorem dL_law_1174 : decode cL_law 1174 = .ok (.istore 6, 2) := by decide +kernel
theorem dL_law_1176 : decode cL_law 1176 = .ok (.aload_n 2, 1) := by decide +kernel
theorem dL_law_1177 : decode cL_law 1177 = .ok (.invokevirtual 85, 3) := by decide +kernel
theorem dL_law_1180 : decode cL_law 1180 = .ok (.iload 5, 2) := by decide +kernel
theorem dL_law_1182 : decode cL_law 1182 = .ok (.if_icmp .eq 5, 3) := by decide +kernel
theorem dL_law_1185 : decode cL_law 1185 = .ok (.iconst 0, 1) := by decide +kernel
theorem dL_law_1186 : decode cL_law 1186 = .ok (.ireturn, 1) := by decide +kernel
theorem dL_law_1187 : decode cL_law 1187 = .ok (.iload 5, 2) := by decide +kernel
theorem dL_law_1189 : decode cL_law 1189 = .ok (.ifCond .ne 15, 3) := by decide +kernel
theorem dL_law_1192 : decode cL_law 1192 = .ok (.aload_n 3, 1) := by decide +kernel
theorem dL_law_1193 : decode cL_law 1193 = .ok (.iconst 0, 1) := by decide +kernel
theorem dL_law_1194 : decode cL_law 1194 = .ok (.laload, 1) := by decide +kernel
theorem dL_law_1195 : decode cL_law 1195 = .ok (.iload 6, 2) := by decide +kernel
theorem dL_law_1197 : decode cL_law 1197 = .ok (.i2l, 1) := by decide +kernel
theorem dL_law_1198 : decode cL_law 1198 = .ok (.lcmp, 1) := by decide +kernel
theorem dL_law_1199 : decode cL_law 1199 = .ok (.ifCond .eq 5, 3) := by decide +kernel
theorem dL_law_1202 : decode cL_law 1202 = .ok (.iconst 0, 1) := by decide +kernel
theorem dL_law_1203 : decode cL_law 1203 = .ok (.ireturn, 1) := by decide +kernel
theorem dL_law_1204 : decode cL_law 1204 = .ok (.goto 167, 3) := by decide +kernel
theorem dL_law_1207 : decode cL_law 1207 = .ok (.aload_n 1, 1) := by decide +kernel
theorem dL_law_1208 : decode cL_law 1208 = .ok (.aload_n 0, 1) := by decide +kernel
theorem dL_law_1209 : decode cL_law 1209 = .ok (.iload 4, 2) := by decide +kernel
theorem dL_law_1211 : decode cL_law 1211 = .ok (.iconst 1, 1) := by decide +kernel
theorem dL_law_1212 : decode cL_law 1212 = .ok (.iadd, 1) := by decide +kernel
theorem dL_law_1213 : decode cL_law 1213 = .ok (.iaload, 1) := by decide +kernel
theorem dL_law_1214 : decode cL_law 1214 = .ok (.aload_n 3, 1) := by decide +kernel
theorem dL_law_1215 : decode cL_law 1215 = .ok (.invokestatic 154, 3) := by decide +kernel
theorem dL_law_1218 : decode cL_law 1218 = .ok (.istore 5, 2) := by decide +kernel
theorem dL_law_1220 : decode cL_law 1220 = .ok (.aload_n 2, 1) := by decide +kernel
theorem dL_law_1221 : decode cL_law 1221 = .ok (.aload_n 0, 1) := by decide +kernel
theorem dL_law_1222 : decode cL_law 1222 = .ok (.iload 4, 2) := by decide +kernel
theorem dL_law_1224 : decode cL_law 1224 = .ok (.iconst 1, 1) := by decide +kernel
theorem dL_law_1225 : decode cL_law 1225 = .ok (.iadd, 1) := by decide +kernel
theorem dL_law_1226 : decode cL_law 1226 = .ok (.iaload, 1) := by decide +kernel
theorem dL_law_1227 : decode cL_law 1227 = .ok (.invokevirtual 156, 3) := by decide +kernel
theorem dL_law_1230 : decode cL_law 1230 = .ok (.istore 6, 2) := by decide +kernel
theorem dL_law_1232 : decode cL_law 1232 = .ok (.aload_n 2, 1) := by decide +kernel
theorem dL_law_1233 : decode cL_law 1233 = .ok (.invokevirtual 85, 3) := by decide +kernel
theorem dL_law_1236 : decode cL_law 1236 = .ok (.iload 5, 2) := by decide +kernel
theorem dL_law_1238 : decode cL_law 1238 = .ok (.if_icmp .eq 5, 3) := by decide +kernel
theorem dL_law_1241 : decode cL_law 1241 = .ok (.iconst 0, 1) := by decide +kernel
theorem dL_law_1242 : decode cL_law 1242 = .ok (.ireturn, 1) := by decide +kernel
theorem dL_law_1243 : decode cL_law 1243 = .ok (.iload 5, 2) := by decide +kernel
theorem dL_law_1245 : decode cL_law 1245 = .ok (.ifCond .ne 15, 3) := by decide +kernel
theorem dL_law_1248 : decode cL_law 1248 = .ok (.aload_n 3, 1) := by decide +kernel
theorem dL_law_1249 : decode cL_law 1249 = .ok (.iconst 0, 1) := by decide +kernel
theorem dL_law_1250 : decode cL_law 1250 = .ok (.laload, 1) := by decide +kernel
theorem dL_law_1251 : decode cL_law 1251 = .ok (.iload 6, 2) := by decide +kernel
theorem dL_law_1253 : decode cL_law 1253 = .ok (.i2l, 1) := by decide +kernel
theorem dL_law_1254 : decode cL_law 1254 = .ok (.lcmp, 1) := by decide +kernel
theorem dL_law_1255 : decode cL_law 1255 = .ok (.ifCond .eq 5, 3) := by decide +kernel
theorem dL_law_1258 : decode cL_law 1258 = .ok (.iconst 0, 1) := by decide +kernel
theorem dL_law_1259 : decode cL_law 1259 = .ok (.ireturn, 1) := by decide +kernel
theorem dL_law_1260 : decode cL_law 1260 = .ok (.goto 111, 3) := by decide +kernel
theorem dL_law_1263 : decode cL_law 1263 = .ok (.aload_n 1, 1) := by decide +kernel
theorem dL_law_1264 : decode cL_law 1264 = .ok (.invokevirtual 157, 3) := by decide +kernel
theorem dL_law_1267 : decode cL_law 1267 = .ok (.aload_n 2, 1) := by decide +kernel
theorem dL_law_1268 : decode cL_law 1268 = .ok (.invokevirtual 160, 3) := by decide +kernel
theorem dL_law_1271 : decode cL_law 1271 = .ok (.if_icmp .eq 100, 3) := by decide +kernel
theorem dL_law_1274 : decode cL_law 1274 = .ok (.iconst 0, 1) := by decide +kernel
theorem dL_law_1275 : decode cL_law 1275 = .ok (.ireturn, 1) := by decide +kernel
theorem dL_law_1276 : decode cL_law 1276 = .ok (.aload_n 1, 1) := by decide +kernel
theorem dL_law_1277 : decode cL_law 1277 = .ok (.aload_n 0, 1) := by decide +kernel
theorem dL_law_1278 : decode cL_law 1278 = .ok (.iload 4, 2) := by decide +kernel
theorem dL_law_1280 : decode cL_law 1280 = .ok (.iconst 1, 1) := by decide +kernel
theorem dL_law_1281 : decode cL_law 1281 = .ok (.iadd, 1) := by decide +kernel
theorem dL_law_1282 : decode cL_law 1282 = .ok (.iaload, 1) := by decide +kernel
theorem dL_law_1283 : decode cL_law 1283 = .ok (.aload_n 3, 1) := by decide +kernel
theorem dL_law_1284 : decode cL_law 1284 = .ok (.invokestatic 161, 3) := by decide +kernel
theorem dL_law_1287 : decode cL_law 1287 = .ok (.istore 5, 2) := by decide +kernel
theorem dL_law_1289 : decode cL_law 1289 = .ok (.aload_n 2, 1) := by decide +kernel
theorem dL_law_1290 : decode cL_law 1290 = .ok (.aload_n 0, 1) := by decide +kernel
theorem dL_law_1291 : decode cL_law 1291 = .ok (.iload 4, 2) := by decide +kernel
theorem dL_law_1293 : decode cL_law 1293 = .ok (.iconst 1, 1) := by decide +kernel
theorem dL_law_1294 : decode cL_law 1294 = .ok (.iadd, 1) := by decide +kernel
theorem dL_law_1295 : decode cL_law 1295 = .ok (.iaload, 1) := by decide +kernel
theorem dL_law_1296 : decode cL_law 1296 = .ok (.invokevirtual 163, 3) := by decide +kernel
theorem dL_law_1299 : decode cL_law 1299 = .ok (.istore 6, 2) := by decide +kernel
theorem dL_law_1301 : decode cL_law 1301 = .ok (.aload_n 2, 1) := by decide +kernel
theorem dL_law_1302 : decode cL_law 1302 = .ok (.invokevirtual 85, 3) := by decide +kernel
theorem dL_law_1305 : decode cL_law 1305 = .ok (.iload 5, 2) := by decide +kernel
theorem dL_law_1307 : decode cL_law 1307 = .ok (.if_icmp .eq 5, 3) := by decide +kernel
theorem dL_law_1310 : decode cL_law 1310 = .ok (.iconst 0, 1) := by decide +kernel
theorem dL_law_1311 : decode cL_law 1311 = .ok (.ireturn, 1) := by decide +kernel
theorem dL_law_1312 : decode cL_law 1312 = .ok (.iload 5, 2) := by decide +kernel
theorem dL_law_1314 : decode cL_law 1314 = .ok (.ifCond .ne 15, 3) := by decide +kernel
theorem dL_law_1317 : decode cL_law 1317 = .ok (.aload_n 3, 1) := by decide +kernel
theorem dL_law_1318 : decode cL_law 1318 = .ok (.iconst 0, 1) := by decide +kernel
theorem dL_law_1319 : decode cL_law 1319 = .ok (.laload, 1) := by decide +kernel
theorem dL_law_1320 : decode cL_law 1320 = .ok (.iload 6, 2) := by decide +kernel
theorem dL_law_1322 : decode cL_law 1322 = .ok (.i2l, 1) := by decide +kernel
theorem dL_law_1323 : decode cL_law 1323 = .ok (.lcmp, 1) := by decide +kernel
theorem dL_law_1324 : decode cL_law 1324 = .ok (.ifCond .eq 5, 3) := by decide +kernel
theorem dL_law_1327 : decode cL_law 1327 = .ok (.iconst 0, 1) := by decide +kernel
theorem dL_law_1328 : decode cL_law 1328 = .ok (.ireturn, 1) := by decide +kernel
theorem dL_law_1329 : decode cL_law 1329 = .ok (.goto 42, 3) := by decide +kernel
theorem dL_law_1332 : decode cL_law 1332 = .ok (.aload_n 1, 1) := by decide +kernel
theorem dL_law_1333 : decode cL_law 1333 = .ok (.invokevirtual 164, 3) := by decide +kernel
theorem dL_law_1336 : decode cL_law 1336 = .ok (.aload_n 2, 1) := by decide +kernel
theorem dL_law_1337 : decode cL_law 1337 = .ok (.invokevirtual 167, 3) := by decide +kernel
theorem dL_law_1340 : decode cL_law 1340 = .ok (.if_icmp .eq 31, 3) := by decide +kernel
theorem dL_law_1343 : decode cL_law 1343 = .ok (.iconst 0, 1) := by decide +kernel
theorem dL_law_1344 : decode cL_law 1344 = .ok (.ireturn, 1) := by decide +kernel
theorem dL_law_1345 : decode cL_law 1345 = .ok (.aload_n 1, 1) := by decide +kernel
theorem dL_law_1346 : decode cL_law 1346 = .ok (.invokevirtual 168, 3) := by decide +kernel
theorem dL_law_1349 : decode cL_law 1349 = .ok (.aload_n 2, 1) := by decide +kernel
theorem dL_law_1350 : decode cL_law 1350 = .ok (.invokevirtual 171, 3) := by decide +kernel
theorem dL_law_1353 : decode cL_law 1353 = .ok (.if_icmp .eq 18, 3) := by decide +kernel
theorem dL_law_1356 : decode cL_law 1356 = .ok (.iconst 0, 1) := by decide +kernel
theorem dL_law_1357 : decode cL_law 1357 = .ok (.ireturn, 1) := by decide +kernel
theorem dL_law_1358 : decode cL_law 1358 = .ok (.aload_n 1, 1) := by decide +kernel
theorem dL_law_1359 : decode cL_law 1359 = .ok (.invokevirtual 172, 3) := by decide +kernel
theorem dL_law_1362 : decode cL_law 1362 = .ok (.aload_n 2, 1) := by decide +kernel
theorem dL_law_1363 : decode cL_law 1363 = .ok (.invokevirtual 175, 3) := by decide +kernel
theorem dL_law_1366 : decode cL_law 1366 = .ok (.if_icmp .eq 5, 3) := by decide +kernel
theorem dL_law_1369 : decode cL_law 1369 = .ok (.iconst 0, 1) := by decide +kernel
theorem dL_law_1370 : decode cL_law 1370 = .ok (.ireturn, 1) := by decide +kernel
theorem dL_law_1371 : decode cL_law 1371 = .ok (.iinc 4 5, 3) := by decide +kernel
theorem dL_law_1374 : decode cL_law 1374 = .ok (.goto (-1351), 3) := by decide +kernel
theorem dL_law_1377 : decode cL_law 1377 = .ok (.iconst 1, 1) := by decide +kernel
theorem dL_law_1378 : decode cL_law 1378 = .ok (.ireturn, 1) := by decide +kernel
