theorem dX5_marking_41 : decode cX5_marking 41 = .ok (.getfield 124, 3) := by decide +kernel
theorem dX5_marking_44 : decode cX5_marking 44 = .ok (.if_icmp .lt 5, 3) := by decide +kernel
theorem dX5_marking_47 : decode cX5_marking 47 = .ok (.iconst (-1), 1) := by decide +kernel
theorem dX5_marking_48 : decode cX5_marking 48 = .ok (.ireturn, 1) := by decide +kernel
theorem dX5_marking_49 : decode cX5_marking 49 = .ok (.aload_n 0, 1) := by decide +kernel
theorem dX5_marking_50 : decode cX5_marking 50 = .ok (.getfield 21, 3) := by decide +kernel
theorem dX5_marking_53 : decode cX5_marking 53 = .ok (.iload_n 1, 1) := by decide +kernel
theorem dX5_marking_54 : decode cX5_marking 54 = .ok (.iload_n 2, 1) := by decide +kernel
theorem dX5_marking_55 : decode cX5_marking 55 = .ok (.invokevirtual 139, 3) := by decide +kernel
theorem dX5_marking_58 : decode cX5_marking 58 = .ok (.ireturn, 1) := by decide +kernel
theorem dX5_most_0 : decode cX5_most 0 = .ok (.aload_n 0, 1) := by decide +kernel
theorem dX5_most_1 : decode cX5_most 1 = .ok (.iload_n 1, 1) := by decide +kernel
theorem dX5_most_2 : decode cX5_most 2 = .ok (.invokevirtual 84, 3) := by decide +kernel
theorem dX5_most_5 : decode cX5_most 5 = .ok (.aload_n 0, 1) := by decide +kernel
theorem dX5_most_6 : decode cX5_most 6 = .ok (.getfield 21, 3) := by decide +kernel
theorem dX5_most_9 : decode cX5_most 9 = .ok (.invokevirtual 117, 3) := by decide +kernel
theorem dX5_most_12 : decode cX5_most 12 = .ok (.aload_n 0, 1) := by decide +kernel
theorem dX5_most_13 : decode cX5_most 13 = .ok (.getfield 21, 3) := by decide +kernel
theorem dX5_most_16 : decode cX5_most 16 = .ok (.getfield 120, 3) := by decide +kernel
theorem dX5_most_19 : decode cX5_most 19 = .ok (.ifCond .eq 7, 3) := by decide +kernel
theorem dX5_most_22 : decode cX5_most 22 = .ok (.iconst (-1), 1) := by decide +kernel
theorem dX5_most_23 : decode cX5_most 23 = .ok (.goto 11, 3) := by decide +kernel
theorem dX5_most_26 : decode cX5_most 26 = .ok (.aload_n 0, 1) := by decide +kernel
theorem dX5_most_27 : decode cX5_most 27 = .ok (.getfield 21, 3) := by decide +kernel
theorem dX5_most_30 : decode cX5_most 30 = .ok (.iload_n 1, 1) := by decide +kernel
theorem dX5_most_31 : decode cX5_most 31 = .ok (.invokevirtual 143, 3) := by decide +kernel
theorem dX5_most_34 : decode cX5_most 34 = .ok (.ireturn, 1) := by decide +kernel
theorem dX5_level_0 : decode cX5_level 0 = .ok (.aload_n 0, 1) := by decide +kernel
theorem dX5_level_1 : decode cX5_level 1 = .ok (.iload_n 1, 1) := by decide +kernel
theorem dX5_level_2 : decode cX5_level 2 = .ok (.invokevirtual 81, 3) := by decide +kernel
theorem dX5_level_5 : decode cX5_level 5 = .ok (.aload_n 0, 1) := by decide +kernel
theorem dX5_level_6 : decode cX5_level 6 = .ok (.getfield 21, 3) := by decide +kernel
theorem dX5_level_9 : decode cX5_level 9 = .ok (.invokevirtual 117, 3) := by decide +kernel
theorem dX5_level_12 : decode cX5_level 12 = .ok (.aload_n 0, 1) := by decide +kernel
theorem dX5_level_13 : decode cX5_level 13 = .ok (.getfield 21, 3) := by decide +kernel
theorem dX5_level_16 : decode cX5_level 16 = .ok (.getfield 120, 3) := by decide +kernel
theorem dX5_level_19 : decode cX5_level 19 = .ok (.ifCond .eq 7, 3) := by decide +kernel
theorem dX5_level_22 : decode cX5_level 22 = .ok (.iconst (-1), 1) := by decide +kernel
theorem dX5_level_23 : decode cX5_level 23 = .ok (.goto 11, 3) := by decide +kernel
theorem dX5_level_26 : decode cX5_level 26 = .ok (.aload_n 0, 1) := by decide +kernel
theorem dX5_level_27 : decode cX5_level 27 = .ok (.getfield 21, 3) := by decide +kernel
theorem dX5_level_30 : decode cX5_level 30 = .ok (.iload_n 1, 1) := by decide +kernel
theorem dX5_level_31 : decode cX5_level 31 = .ok (.invokevirtual 146, 3) := by decide +kernel
theorem dX5_level_34 : decode cX5_level 34 = .ok (.ireturn, 1) := by decide +kernel
theorem dX5_way_0 : decode cX5_way 0 = .ok (.aload_n 0, 1) := by decide +kernel
theorem dX5_way_1 : decode cX5_way 1 = .ok (.iload_n 1, 1) := by decide +kernel
theorem dX5_way_2 : decode cX5_way 2 = .ok (.invokevirtual 84, 3) := by decide +kernel
theorem dX5_way_5 : decode cX5_way 5 = .ok (.iload_n 2, 1) := by decide +kernel
theorem dX5_way_6 : decode cX5_way 6 = .ok (.invokestatic 53, 3) := by decide +kernel
theorem dX5_way_9 : decode cX5_way 9 = .ok (.aload_n 0, 1) := by decide +kernel
theorem dX5_way_10 : decode cX5_way 10 = .ok (.getfield 21, 3) := by decide +kernel
theorem dX5_way_13 : decode cX5_way 13 = .ok (.invokevirtual 117, 3) := by decide +kernel
theorem dX5_way_16 : decode cX5_way 16 = .ok (.aload_n 0, 1) := by decide +kernel
theorem dX5_way_17 : decode cX5_way 17 = .ok (.getfield 21, 3) := by decide +kernel
theorem dX5_way_20 : decode cX5_way 20 = .ok (.getfield 120, 3) := by decide +kernel
theorem dX5_way_23 : decode cX5_way 23 = .ok (.ifCond .eq 7, 3) := by decide +kernel
theorem dX5_way_26 : decode cX5_way 26 = .ok (.iconst (-1), 1) := by decide +kernel
theorem dX5_way_27 : decode cX5_way 27 = .ok (.goto 19, 3) := by decide +kernel
theorem dX5_way_30 : decode cX5_way 30 = .ok (.aload_n 0, 1) := by decide +kernel
theorem dX5_way_31 : decode cX5_way 31 = .ok (.getfield 21, 3) := by decide +kernel
theorem dX5_way_34 : decode cX5_way 34 = .ok (.aload_n 0, 1) := by decide +kernel
theorem dX5_way_35 : decode cX5_way 35 = .ok (.getfield 21, 3) := by decide +kernel
theorem dX5_way_38 : decode cX5_way 38 = .ok (.iload_n 1, 1) := by decide +kernel
theorem dX5_way_39 : decode cX5_way 39 = .ok (.iload_n 2, 1) := by decide +kernel
theorem dX5_way_40 : decode cX5_way 40 = .ok (.invokevirtual 149, 3) := by decide +kernel
theorem dX5_way_43 : decode cX5_way 43 = .ok (.invokevirtual 152, 3) := by decide +kernel
theorem dX5_way_46 : decode cX5_way 46 = .ok (.ireturn, 1) := by decide +kernel
theorem dX5_step_0 : decode cX5_step 0 = .ok (.aload_n 0, 1) := by decide +kernel
theorem dX5_step_1 : decode cX5_step 1 = .ok (.iload_n 1, 1) := by decide +kernel
theorem dX5_step_2 : decode cX5_step 2 = .ok (.invokevirtual 84, 3) := by decide +kernel
theorem dX5_step_5 : decode cX5_step 5 = .ok (.iload_n 2, 1) := by decide +kernel
theorem dX5_step_6 : decode cX5_step 6 = .ok (.invokestatic 53, 3) := by decide +kernel
theorem dX5_step_9 : decode cX5_step 9 = .ok (.iload_n 3, 1) := by decide +kernel
theorem dX5_step_10 : decode cX5_step 10 = .ok (.ifCond .ge 13, 3) := by decide +kernel
theorem dX5_step_13 : decode cX5_step 13 = .ok (.new 87, 3) := by decide +kernel
theorem dX5_step_16 : decode cX5_step 16 = .ok (.dup, 1) := by decide +kernel
theorem dX5_step_17 : decode cX5_step 17 = .ok (.ldc 155, 2) := by decide +kernel
theorem dX5_step_19 : decode cX5_step 19 = .ok (.invokespecial 91, 3) := by decide +kernel
theorem dX5_step_22 : decode cX5_step 22 = .ok (.athrow, 1) := by decide +kernel
theorem dX5_step_23 : decode cX5_step 23 = .ok (.aload_n 0, 1) := by decide +kernel
theorem dX5_step_24 : decode cX5_step 24 = .ok (.getfield 21, 3) := by decide +kernel
theorem dX5_step_27 : decode cX5_step 27 = .ok (.invokevirtual 117, 3) := by decide +kernel
theorem dX5_step_30 : decode cX5_step 30 = .ok (.aload_n 0, 1) := by decide +kernel
theorem dX5_step_31 : decode cX5_step 31 = .ok (.getfield 21, 3) := by decide +kernel
theorem dX5_step_34 : decode cX5_step 34 = .ok (.getfield 120, 3) := by decide +kernel
theorem dX5_step_37 : decode cX5_step 37 = .ok (.ifCond .eq 7, 3) := by decide +kernel
theorem dX5_step_40 : decode cX5_step 40 = .ok (.iconst (-1), 1) := by decide +kernel
theorem dX5_step_41 : decode cX5_step 41 = .ok (.goto 20, 3) := by decide +kernel
theorem dX5_step_44 : decode cX5_step 44 = .ok (.aload_n 0, 1) := by decide +kernel
theorem dX5_step_45 : decode cX5_step 45 = .ok (.getfield 21, 3) := by decide +kernel
theorem dX5_step_48 : decode cX5_step 48 = .ok (.aload_n 0, 1) := by decide +kernel
theorem dX5_step_49 : decode cX5_step 49 = .ok (.getfield 21, 3) := by decide +kernel
theorem dX5_step_52 : decode cX5_step 52 = .ok (.iload_n 1, 1) := by decide +kernel
theorem dX5_step_53 : decode cX5_step 53 = .ok (.iload_n 2, 1) := by decide +kernel
theorem dX5_step_54 : decode cX5_step 54 = .ok (.invokevirtual 149, 3) := by decide +kernel
theorem dX5_step_57 : decode cX5_step 57 = .ok (.iload_n 3, 1) := by decide +kernel
theorem dX5_step_58 : decode cX5_step 58 = .ok (.invokevirtual 157, 3) := by decide +kernel
theorem dX5_step_61 : decode cX5_step 61 = .ok (.ireturn, 1) := by decide +kernel
theorem dX5_rows_0 : decode cX5_rows 0 = .ok (.aload_n 0, 1) := by decide +kernel
theorem dX5_rows_1 : decode cX5_rows 1 = .ok (.invokevirtual 160, 3) := by decide +kernel
theorem dX5_rows_4 : decode cX5_rows 4 = .ok (.aload_n 0, 1) := by decide +kernel
theorem dX5_rows_5 : decode cX5_rows 5 = .ok (.getfield 30, 3) := by decide +kernel
theorem dX5_rows_8 : decode cX5_rows 8 = .ok (.getfield 163, 3) := by decide +kernel
theorem dX5_rows_11 : decode cX5_rows 11 = .ok (.ireturn, 1) := by decide +kernel
theorem dX5_row_0 : decode cX5_row 0 = .ok (.aload_n 0, 1) := by decide +kernel
theorem dX5_row_1 : decode cX5_row 1 = .ok (.invokevirtual 160, 3) := by decide +kernel
theorem dX5_row_4 : decode cX5_row 4 = .ok (.iload_n 1, 1) := by decide +kernel
theorem dX5_row_5 : decode cX5_row 5 = .ok (.ifCond .lt 14, 3) := by decide +kernel
theorem dX5_row_8 : decode cX5_row 8 = .ok (.iload_n 1, 1) := by decide +kernel
theorem dX5_row_9 : decode cX5_row 9 = .ok (.aload_n 0, 1) := by decide +kernel
theorem dX5_row_10 : decode cX5_row 10 = .ok (.getfield 30, 3) := by decide +kernel
theorem dX5_row_13 : decode cX5_row 13 = .ok (.getfield 163, 3) := by decide +kernel
theorem dX5_row_16 : decode cX5_row 16 = .ok (.if_icmp .lt 13, 3) := by decide +kernel
theorem dX5_row_19 : decode cX5_row 19 = .ok (.new 164, 3) := by decide +kernel
theorem dX5_row_22 : decode cX5_row 22 = .ok (.dup, 1) := by decide +kernel
theorem dX5_row_23 : decode cX5_row 23 = .ok (.ldc 166, 2) := by decide +kernel
theorem dX5_row_25 : decode cX5_row 25 = .ok (.invokespecial 168, 3) := by decide +kernel
theorem dX5_row_28 : decode cX5_row 28 = .ok (.athrow, 1) := by decide +kernel
theorem dX5_row_29 : decode cX5_row 29 = .ok (.aload_n 0, 1) := by decide +kernel
theorem dX5_row_30 : decode cX5_row 30 = .ok (.iload_n 2, 1) := by decide +kernel
theorem dX5_row_31 : decode cX5_row 31 = .ok (.invokevirtual 84, 3) := by decide +kernel
theorem dX5_row_34 : decode cX5_row 34 = .ok (.aload_n 0, 1) := by decide +kernel
theorem dX5_row_35 : decode cX5_row 35 = .ok (.getfield 30, 3) := by decide +kernel
theorem dX5_row_38 : decode cX5_row 38 = .ok (.iload_n 1, 1) := by decide +kernel
theorem dX5_row_39 : decode cX5_row 39 = .ok (.iload_n 2, 1) := by decide +kernel
theorem dX5_row_40 : decode cX5_row 40 = .ok (.invokevirtual 169, 3) := by decide +kernel
theorem dX5_row_43 : decode cX5_row 43 = .ok (.ireturn, 1) := by decide +kernel
theorem dX5_mostByRows_0 : decode cX5_mostByRows 0 = .ok (.aload_n 0, 1) := by decide +kernel
theorem dX5_mostByRows_1 : decode cX5_mostByRows 1 = .ok (.iload_n 1, 1) := by decide +kernel
theorem dX5_mostByRows_2 : decode cX5_mostByRows 2 = .ok (.invokevirtual 84, 3) := by decide +kernel
theorem dX5_mostByRows_5 : decode cX5_mostByRows 5 = .ok (.aload_n 0, 1) := by decide +kernel
theorem dX5_mostByRows_6 : decode cX5_mostByRows 6 = .ok (.invokevirtual 160, 3) := by decide +kernel
theorem dX5_mostByRows_9 : decode cX5_mostByRows 9 = .ok (.aload_n 0, 1) := by decide +kernel
theorem dX5_mostByRows_10 : decode cX5_mostByRows 10 = .ok (.iload_n 1, 1) := by decide +kernel
theorem dX5_mostByRows_11 : decode cX5_mostByRows 11 = .ok (.invokevirtual 172, 3) := by decide +kernel
theorem dX5_mostByRows_14 : decode cX5_mostByRows 14 = .ok (.ireturn, 1) := by decide +kernel
theorem dX5_rounds_0 : decode cX5_rounds 0 = .ok (.aload_n 0, 1) := by decide +kernel
theorem dX5_rounds_1 : decode cX5_rounds 1 = .ok (.invokevirtual 175, 3) := by decide +kernel
theorem dX5_rounds_4 : decode cX5_rounds 4 = .ok (.aload_n 0, 1) := by decide +kernel
theorem dX5_rounds_5 : decode cX5_rounds 5 = .ok (.getfield 34, 3) := by decide +kernel
theorem dX5_rounds_8 : decode cX5_rounds 8 = .ok (.getfield 163, 3) := by decide +kernel
theorem dX5_rounds_11 : decode cX5_rounds 11 = .ok (.ireturn, 1) := by decide +kernel
theorem dX5_round_0 : decode cX5_round 0 = .ok (.aload_n 0, 1) := by decide +kernel
theorem dX5_round_1 : decode cX5_round 1 = .ok (.invokevirtual 175, 3) := by decide +kernel
theorem dX5_round_4 : decode cX5_round 4 = .ok (.iload_n 1, 1) := by decide +kernel
theorem dX5_round_5 : decode cX5_round 5 = .ok (.ifCond .lt 14, 3) := by decide +kernel
theorem dX5_round_8 : decode cX5_round 8 = .ok (.iload_n 1, 1) := by decide +kernel
theorem dX5_round_9 : decode cX5_round 9 = .ok (.aload_n 0, 1) := by decide +kernel
theorem dX5_round_10 : decode cX5_round 10 = .ok (.getfield 34, 3) := by decide +kernel
theorem dX5_round_13 : decode cX5_round 13 = .ok (.getfield 163, 3) := by decide +kernel
theorem dX5_round_16 : decode cX5_round 16 = .ok (.if_icmp .lt 13, 3) := by decide +kernel
theorem dX5_round_19 : decode cX5_round 19 = .ok (.new 164, 3) := by decide +kernel
theorem dX5_round_22 : decode cX5_round 22 = .ok (.dup, 1) := by decide +kernel
theorem dX5_round_23 : decode cX5_round 23 = .ok (.ldc 178, 2) := by decide +kernel
theorem dX5_round_25 : decode cX5_round 25 = .ok (.invokespecial 168, 3) := by decide +kernel
theorem dX5_round_28 : decode cX5_round 28 = .ok (.athrow, 1) := by decide +kernel
theorem dX5_round_29 : decode cX5_round 29 = .ok (.aload_n 0, 1) := by decide +kernel
theorem dX5_round_30 : decode cX5_round 30 = .ok (.iload_n 2, 1) := by decide +kernel
theorem dX5_round_31 : decode cX5_round 31 = .ok (.invokevirtual 81, 3) := by decide +kernel
theorem dX5_round_34 : decode cX5_round 34 = .ok (.aload_n 0, 1) := by decide +kernel
theorem dX5_round_35 : decode cX5_round 35 = .ok (.getfield 34, 3) := by decide +kernel
theorem dX5_round_38 : decode cX5_round 38 = .ok (.iload_n 1, 1) := by decide +kernel
theorem dX5_round_39 : decode cX5_round 39 = .ok (.iload_n 2, 1) := by decide +kernel
theorem dX5_round_40 : decode cX5_round 40 = .ok (.invokevirtual 169, 3) := by decide +kernel
theorem dX5_round_43 : decode cX5_round 43 = .ok (.ireturn, 1) := by decide +kernel
theorem dX5_keeps_0 : decode cX5_keeps 0 = .ok (.aload_n 0, 1) := by decide +kernel
theorem dX5_keeps_1 : decode cX5_keeps 1 = .ok (.getfield 21, 3) := by decide +kernel
theorem dX5_keeps_4 : decode cX5_keeps 4 = .ok (.invokevirtual 117, 3) := by decide +kernel
theorem dX5_keeps_7 : decode cX5_keeps 7 = .ok (.aload_n 0, 1) := by decide +kernel
theorem dX5_keeps_8 : decode cX5_keeps 8 = .ok (.invokevirtual 160, 3) := by decide +kernel
theorem dX5_keeps_11 : decode cX5_keeps 11 = .ok (.aload_n 0, 1) := by decide +kernel
theorem dX5_keeps_12 : decode cX5_keeps 12 = .ok (.getfield 21, 3) := by decide +kernel
theorem dX5_keeps_15 : decode cX5_keeps 15 = .ok (.getfield 120, 3) := by decide +kernel
theorem dX5_keeps_18 : decode cX5_keeps 18 = .ok (.ifCond .ne 17, 3) := by decide +kernel
theorem dX5_keeps_21 : decode cX5_keeps 21 = .ok (.aload_n 0, 1) := by decide +kernel
theorem dX5_keeps_22 : decode cX5_keeps 22 = .ok (.invokevirtual 180, 3) := by decide +kernel
theorem dX5_keeps_25 : decode cX5_keeps 25 = .ok (.ifCond .eq 14, 3) := by decide +kernel
theorem dX5_keeps_28 : decode cX5_keeps 28 = .ok (.aload_n 0, 1) := by decide +kernel
theorem dX5_keeps_29 : decode cX5_keeps 29 = .ok (.invokevirtual 183, 3) := by decide +kernel
theorem dX5_keeps_32 : decode cX5_keeps 32 = .ok (.ifCond .eq 7, 3) := by decide +kernel
theorem dX5_keeps_35 : decode cX5_keeps 35 = .ok (.iconst 1, 1) := by decide +kernel
theorem dX5_keeps_36 : decode cX5_keeps 36 = .ok (.goto 4, 3) := by decide +kernel
theorem dX5_keeps_39 : decode cX5_keeps 39 = .ok (.iconst 0, 1) := by decide +kernel
theorem dX5_keeps_40 : decode cX5_keeps 40 = .ok (.ireturn, 1) := by decide +kernel
theorem dX5_siphons_0 : decode cX5_siphons 0 = .ok (.aload_n 0, 1) := by decide +kernel
theorem dX5_siphons_1 : decode cX5_siphons 1 = .ok (.getfield 40, 3) := by decide +kernel
theorem dX5_siphons_4 : decode cX5_siphons 4 = .ok (.invokevirtual 186, 3) := by decide +kernel
theorem dX5_siphons_7 : decode cX5_siphons 7 = .ok (.aload_n 0, 1) := by decide +kernel
theorem dX5_siphons_8 : decode cX5_siphons 8 = .ok (.getfield 40, 3) := by decide +kernel
theorem dX5_siphons_11 : decode cX5_siphons 11 = .ok (.getfield 187, 3) := by decide +kernel
theorem dX5_siphons_14 : decode cX5_siphons 14 = .ok (.ireturn, 1) := by decide +kernel
theorem dX5_siphon_0 : decode cX5_siphon 0 = .ok (.aload_n 0, 1) := by decide +kernel
theorem dX5_siphon_1 : decode cX5_siphon 1 = .ok (.getfield 40, 3) := by decide +kernel
theorem dX5_siphon_4 : decode cX5_siphon 4 = .ok (.invokevirtual 186, 3) := by decide +kernel
theorem dX5_siphon_7 : decode cX5_siphon 7 = .ok (.iload_n 1, 1) := by decide +kernel
theorem dX5_siphon_8 : decode cX5_siphon 8 = .ok (.ifCond .lt 14, 3) := by decide +kernel
theorem dX5_siphon_11 : decode cX5_siphon 11 = .ok (.iload_n 1, 1) := by decide +kernel
theorem dX5_siphon_12 : decode cX5_siphon 12 = .ok (.aload_n 0, 1) := by decide +kernel
theorem dX5_siphon_13 : decode cX5_siphon 13 = .ok (.getfield 40, 3) := by decide +kernel
theorem dX5_siphon_16 : decode cX5_siphon 16 = .ok (.getfield 187, 3) := by decide +kernel
theorem dX5_siphon_19 : decode cX5_siphon 19 = .ok (.if_icmp .lt 13, 3) := by decide +kernel
theorem dX5_siphon_22 : decode cX5_siphon 22 = .ok (.new 164, 3) := by decide +kernel
theorem dX5_siphon_25 : decode cX5_siphon 25 = .ok (.dup, 1) := by decide +kernel
theorem dX5_siphon_26 : decode cX5_siphon 26 = .ok (.ldc 188, 2) := by decide +kernel
theorem dX5_siphon_28 : decode cX5_siphon 28 = .ok (.invokespecial 168, 3) := by decide +kernel
theorem dX5_siphon_31 : decode cX5_siphon 31 = .ok (.athrow, 1) := by decide +kernel
theorem dX5_siphon_32 : decode cX5_siphon 32 = .ok (.aload_n 0, 1) := by decide +kernel
theorem dX5_siphon_33 : decode cX5_siphon 33 = .ok (.getfield 40, 3) := by decide +kernel
theorem dX5_siphon_36 : decode cX5_siphon 36 = .ok (.iload_n 1, 1) := by decide +kernel
theorem dX5_siphon_37 : decode cX5_siphon 37 = .ok (.invokevirtual 190, 3) := by decide +kernel
theorem dX5_siphon_40 : decode cX5_siphon 40 = .ok (.ireturn, 1) := by decide +kernel
theorem dX5_trap_0 : decode cX5_trap 0 = .ok (.iload_n 1, 1) := by decide +kernel
theorem dX5_trap_1 : decode cX5_trap 1 = .ok (.ifCond .lt 16, 3) := by decide +kernel
theorem dX5_trap_4 : decode cX5_trap 4 = .ok (.iload_n 1, 1) := by decide +kernel
theorem dX5_trap_5 : decode cX5_trap 5 = .ok (.iconst 1, 1) := by decide +kernel
theorem dX5_trap_6 : decode cX5_trap 6 = .ok (.aload_n 0, 1) := by decide +kernel
theorem dX5_trap_7 : decode cX5_trap 7 = .ok (.getfield 10, 3) := by decide +kernel
theorem dX5_trap_10 : decode cX5_trap 10 = .ok (.getfield 57, 3) := by decide +kernel
theorem dX5_trap_13 : decode cX5_trap 13 = .ok (.ishl, 1) := by decide +kernel
theorem dX5_trap_14 : decode cX5_trap 14 = .ok (.if_icmp .lt 13, 3) := by decide +kernel
theorem dX5_trap_17 : decode cX5_trap 17 = .ok (.new 87, 3) := by decide +kernel
theorem dX5_trap_20 : decode cX5_trap 20 = .ok (.dup, 1) := by decide +kernel
theorem dX5_trap_21 : decode cX5_trap 21 = .ok (.ldc 193, 2) := by decide +kernel
theorem dX5_trap_23 : decode cX5_trap 23 = .ok (.invokespecial 91, 3) := by decide +kernel
theorem dX5_trap_26 : decode cX5_trap 26 = .ok (.athrow, 1) := by decide +kernel
theorem dX5_trap_27 : decode cX5_trap 27 = .ok (.aload_n 0, 1) := by decide +kernel
theorem dX5_trap_28 : decode cX5_trap 28 = .ok (.getfield 40, 3) := by decide +kernel
theorem dX5_trap_31 : decode cX5_trap 31 = .ok (.invokevirtual 186, 3) := by decide +kernel
theorem dX5_trap_34 : decode cX5_trap 34 = .ok (.aload_n 0, 1) := by decide +kernel
theorem dX5_trap_35 : decode cX5_trap 35 = .ok (.getfield 40, 3) := by decide +kernel
theorem dX5_trap_38 : decode cX5_trap 38 = .ok (.iload_n 1, 1) := by decide +kernel
theorem dX5_trap_39 : decode cX5_trap 39 = .ok (.invokevirtual 195, 3) := by decide +kernel
theorem dX5_trap_42 : decode cX5_trap 42 = .ok (.ireturn, 1) := by decide +kernel
theorem dX5_isPromising_0 : decode cX5_isPromising 0 = .ok (.aload_n 0, 1) := by decide +kernel
theorem dX5_isPromising_1 : decode cX5_isPromising 1 = .ok (.getfield 40, 3) := by decide +kernel
theorem dX5_isPromising_4 : decode cX5_isPromising 4 = .ok (.invokevirtual 186, 3) := by decide +kernel
theorem dX5_isPromising_7 : decode cX5_isPromising 7 = .ok (.iconst 0, 1) := by decide +kernel
theorem dX5_isPromising_8 : decode cX5_isPromising 8 = .ok (.istore_n 1, 1) := by decide +kernel
theorem dX5_isPromising_9 : decode cX5_isPromising 9 = .ok (.iload_n 1, 1) := by decide +kernel
theorem dX5_isPromising_10 : decode cX5_isPromising 10 = .ok (.aload_n 0, 1) := by decide +kernel
theorem dX5_isPromising_11 : decode cX5_isPromising 11 = .ok (.getfield 40, 3) := by decide +kernel
theorem dX5_isPromising_14 : decode cX5_isPromising 14 = .ok (.getfield 187, 3) := by decide +kernel
theorem dX5_isPromising_17 : decode cX5_isPromising 17 = .ok (.if_icmp .ge 36, 3) := by decide +kernel
theorem dX5_isPromising_20 : decode cX5_isPromising 20 = .ok (.aload_n 0, 1) := by decide +kernel
theorem dX5_isPromising_21 : decode cX5_isPromising 21 = .ok (.getfield 10, 3) := by decide +kernel
theorem dX5_isPromising_24 : decode cX5_isPromising 24 = .ok (.aload_n 0, 1) := by decide +kernel
theorem dX5_isPromising_25 : decode cX5_isPromising 25 = .ok (.getfield 40, 3) := by decide +kernel
theorem dX5_isPromising_28 : decode cX5_isPromising 28 = .ok (.aload_n 0, 1) := by decide +kernel
theorem dX5_isPromising_29 : decode cX5_isPromising 29 = .ok (.getfield 40, 3) := by decide +kernel
theorem dX5_isPromising_32 : decode cX5_isPromising 32 = .ok (.iload_n 1, 1) := by decide +kernel
theorem dX5_isPromising_33 : decode cX5_isPromising 33 = .ok (.invokevirtual 190, 3) := by decide +kernel
theorem dX5_isPromising_36 : decode cX5_isPromising 36 = .ok (.invokevirtual 195, 3) := by decide +kernel
theorem dX5_isPromising_39 : decode cX5_isPromising 39 = .ok (.invokevirtual 198, 3) := by decide +kernel
theorem dX5_isPromising_42 : decode cX5_isPromising 42 = .ok (.ifCond .ne 5, 3) := by decide +kernel
theorem dX5_isPromising_45 : decode cX5_isPromising 45 = .ok (.iconst 0, 1) := by decide +kernel
theorem dX5_isPromising_46 : decode cX5_isPromising 46 = .ok (.ireturn, 1) := by decide +kernel
theorem dX5_isPromising_47 : decode cX5_isPromising 47 = .ok (.iinc 1 1, 3) := by decide +kernel
theorem dX5_isPromising_50 : decode cX5_isPromising 50 = .ok (.goto (-41), 3) := by decide +kernel
theorem dX5_isPromising_53 : decode cX5_isPromising 53 = .ok (.iconst 1, 1) := by decide +kernel
theorem dX5_isPromising_54 : decode cX5_isPromising 54 = .ok (.ireturn, 1) := by decide +kernel
theorem dX5_log_0 : decode cX5_log 0 = .ok (.aload_n 0, 1) := by decide +kernel
theorem dX5_log_1 : decode cX5_log 1 = .ok (.iload_n 1, 1) := by decide +kernel
theorem dX5_log_2 : decode cX5_log 2 = .ok (.invokevirtual 81, 3) := by decide +kernel
theorem dX5_log_5 : decode cX5_log 5 = .ok (.aload_n 0, 1) := by decide +kernel
theorem dX5_log_6 : decode cX5_log 6 = .ok (.getfield 49, 3) := by decide +kernel
theorem dX5_log_9 : decode cX5_log 9 = .ok (.getfield 202, 3) := by decide +kernel
theorem dX5_log_12 : decode cX5_log 12 = .ok (.bipush 10, 2) := by decide +kernel
theorem dX5_log_14 : decode cX5_log 14 = .ok (.if_icmp .lt 13, 3) := by decide +kernel
theorem dX5_log_17 : decode cX5_log 17 = .ok (.new 61, 3) := by decide +kernel
theorem dX5_log_20 : decode cX5_log 20 = .ok (.dup, 1) := by decide +kernel
theorem dX5_log_21 : decode cX5_log 21 = .ok (.ldc 205, 2) := by decide +kernel
theorem dX5_log_23 : decode cX5_log 23 = .ok (.invokespecial 65, 3) := by decide +kernel
theorem dX5_log_26 : decode cX5_log 26 = .ok (.athrow, 1) := by decide +kernel
theorem dX5_log_27 : decode cX5_log 27 = .ok (.aload_n 0, 1) := by decide +kernel
theorem dX5_log_28 : decode cX5_log 28 = .ok (.getfield 49, 3) := by decide +kernel
theorem dX5_log_31 : decode cX5_log 31 = .ok (.iload_n 1, 1) := by decide +kernel
theorem dX5_log_32 : decode cX5_log 32 = .ok (.invokevirtual 207, 3) := by decide +kernel
theorem dX5_log_35 : decode cX5_log 35 = .ok (.ireturn, 1) := by decide +kernel
theorem dX5_blank_0 : decode cX5_blank 0 = .ok (.aload_n 0, 1) := by decide +kernel
theorem dX5_blank_1 : decode cX5_blank 1 = .ok (.getfield 49, 3) := by decide +kernel
theorem dX5_blank_4 : decode cX5_blank 4 = .ok (.invokevirtual 210, 3) := by decide +kernel
theorem dX5_blank_7 : decode cX5_blank 7 = .ok (.ireturn, 1) := by decide +kernel
theorem dX5_goes_0 : decode cX5_goes 0 = .ok (.aload_n 0, 1) := by decide +kernel
theorem dX5_goes_1 : decode cX5_goes 1 = .ok (.getfield 49, 3) := by decide +kernel
theorem dX5_goes_4 : decode cX5_goes 4 = .ok (.invokevirtual 213, 3) := by decide +kernel
theorem dX5_goes_7 : decode cX5_goes 7 = .ok (.ireturn, 1) := by decide +kernel
theorem dX5_cost_0 : decode cX5_cost 0 = .ok (.aload_n 0, 1) := by decide +kernel
theorem dX5_cost_1 : decode cX5_cost 1 = .ok (.getfield 21, 3) := by decide +kernel
theorem dX5_cost_4 : decode cX5_cost 4 = .ok (.invokevirtual 117, 3) := by decide +kernel
theorem dX5_cost_7 : decode cX5_cost 7 = .ok (.aload_n 0, 1) := by decide +kernel
theorem dX5_cost_8 : decode cX5_cost 8 = .ok (.getfield 21, 3) := by decide +kernel
theorem dX5_cost_11 : decode cX5_cost 11 = .ok (.getfield 120, 3) := by decide +kernel
theorem dX5_cost_14 : decode cX5_cost 14 = .ok (.ifCond .eq 7, 3) := by decide +kernel
theorem dX5_cost_17 : decode cX5_cost 17 = .ok (.iconst (-1), 1) := by decide +kernel
theorem dX5_cost_18 : decode cX5_cost 18 = .ok (.goto 10, 3) := by decide +kernel
theorem dX5_cost_21 : decode cX5_cost 21 = .ok (.aload_n 0, 1) := by decide +kernel
theorem dX5_cost_22 : decode cX5_cost 22 = .ok (.getfield 49, 3) := by decide +kernel
theorem dX5_cost_25 : decode cX5_cost 25 = .ok (.invokevirtual 216, 3) := by decide +kernel
theorem dX5_cost_28 : decode cX5_cost 28 = .ok (.ireturn, 1) := by decide +kernel
theorem dX5_needPlace_0 : decode cX5_needPlace 0 = .ok (.iload_n 1, 1) := by decide +kernel
theorem dX5_needPlace_1 : decode cX5_needPlace 1 = .ok (.ifCond .lt 14, 3) := by decide +kernel
theorem dX5_needPlace_4 : decode cX5_needPlace 4 = .ok (.iload_n 1, 1) := by decide +kernel
theorem dX5_needPlace_5 : decode cX5_needPlace 5 = .ok (.aload_n 0, 1) := by decide +kernel
theorem dX5_needPlace_6 : decode cX5_needPlace 6 = .ok (.getfield 10, 3) := by decide +kernel
theorem dX5_needPlace_9 : decode cX5_needPlace 9 = .ok (.getfield 57, 3) := by decide +kernel
theorem dX5_needPlace_12 : decode cX5_needPlace 12 = .ok (.if_icmp .lt 13, 3) := by decide +kernel
theorem dX5_needPlace_15 : decode cX5_needPlace 15 = .ok (.new 164, 3) := by decide +kernel
theorem dX5_needPlace_18 : decode cX5_needPlace 18 = .ok (.dup, 1) := by decide +kernel
theorem dX5_needPlace_19 : decode cX5_needPlace 19 = .ok (.ldc 219, 2) := by decide +kernel
theorem dX5_needPlace_21 : decode cX5_needPlace 21 = .ok (.invokespecial 168, 3) := by decide +kernel
theorem dX5_needPlace_24 : decode cX5_needPlace 24 = .ok (.athrow, 1) := by decide +kernel
theorem dX5_needPlace_25 : decode cX5_needPlace 25 = .ok (.return_, 1) := by decide +kernel
theorem dX5_needFiring_0 : decode cX5_needFiring 0 = .ok (.iload_n 1, 1) := by decide +kernel
theorem dX5_needFiring_1 : decode cX5_needFiring 1 = .ok (.ifCond .lt 14, 3) := by decide +kernel
theorem dX5_needFiring_4 : decode cX5_needFiring 4 = .ok (.iload_n 1, 1) := by decide +kernel
theorem dX5_needFiring_5 : decode cX5_needFiring 5 = .ok (.aload_n 0, 1) := by decide +kernel
theorem dX5_needFiring_6 : decode cX5_needFiring 6 = .ok (.getfield 10, 3) := by decide +kernel
theorem dX5_needFiring_9 : decode cX5_needFiring 9 = .ok (.getfield 72, 3) := by decide +kernel
theorem dX5_needFiring_12 : decode cX5_needFiring 12 = .ok (.if_icmp .lt 13, 3) := by decide +kernel
theorem dX5_needFiring_15 : decode cX5_needFiring 15 = .ok (.new 164, 3) := by decide +kernel
theorem dX5_needFiring_18 : decode cX5_needFiring 18 = .ok (.dup, 1) := by decide +kernel
theorem dX5_needFiring_19 : decode cX5_needFiring 19 = .ok (.ldc 221, 2) := by decide +kernel
theorem dX5_needFiring_21 : decode cX5_needFiring 21 = .ok (.invokespecial 168, 3) := by decide +kernel
theorem dX5_needFiring_24 : decode cX5_needFiring 24 = .ok (.athrow, 1) := by decide +kernel
theorem dX5_needFiring_25 : decode cX5_needFiring 25 = .ok (.return_, 1) := by decide +kernel
theorem dX5_needTokens_0 : decode cX5_needTokens 0 = .ok (.iload_n 0, 1) := by decide +kernel
theorem dX5_needTokens_1 : decode cX5_needTokens 1 = .ok (.ifCond .lt 9, 3) := by decide +kernel
theorem dX5_needTokens_4 : decode cX5_needTokens 4 = .ok (.iload_n 0, 1) := by decide +kernel
theorem dX5_needTokens_5 : decode cX5_needTokens 5 = .ok (.bipush 99, 2) := by decide +kernel
theorem dX5_needTokens_7 : decode cX5_needTokens 7 = .ok (.if_icmp .le 13, 3) := by decide +kernel
theorem dX5_needTokens_10 : decode cX5_needTokens 10 = .ok (.new 87, 3) := by decide +kernel
theorem dX5_needTokens_13 : decode cX5_needTokens 13 = .ok (.dup, 1) := by decide +kernel
theorem dX5_needTokens_14 : decode cX5_needTokens 14 = .ok (.ldc 223, 2) := by decide +kernel
theorem dX5_needTokens_16 : decode cX5_needTokens 16 = .ok (.invokespecial 91, 3) := by decide +kernel
theorem dX5_needTokens_19 : decode cX5_needTokens 19 = .ok (.athrow, 1) := by decide +kernel
theorem dX5_needTokens_20 : decode cX5_needTokens 20 = .ok (.return_, 1) := by decide +kernel
theorem dX5_refreshRows_0 : decode cX5_refreshRows 0 = .ok (.aload_n 0, 1) := by decide +kernel
theorem dX5_refreshRows_1 : decode cX5_refreshRows 1 = .ok (.getfield 30, 3) := by decide +kernel
theorem dX5_refreshRows_4 : decode cX5_refreshRows 4 = .ok (.getfield 225, 3) := by decide +kernel
theorem dX5_refreshRows_7 : decode cX5_refreshRows 7 = .ok (.aload_n 0, 1) := by decide +kernel
theorem dX5_refreshRows_8 : decode cX5_refreshRows 8 = .ok (.getfield 10, 3) := by decide +kernel
theorem dX5_refreshRows_11 : decode cX5_refreshRows 11 = .ok (.getfield 228, 3) := by decide +kernel
theorem dX5_refreshRows_14 : decode cX5_refreshRows 14 = .ok (.if_icmp .ne 4, 3) := by decide +kernel
theorem dX5_refreshRows_17 : decode cX5_refreshRows 17 = .ok (.return_, 1) := by decide +kernel
theorem dX5_refreshRows_18 : decode cX5_refreshRows 18 = .ok (.aload_n 0, 1) := by decide +kernel
theorem dX5_refreshRows_19 : decode cX5_refreshRows 19 = .ok (.getfield 30, 3) := by decide +kernel
theorem dX5_refreshRows_22 : decode cX5_refreshRows 22 = .ok (.aload_n 0, 1) := by decide +kernel
theorem dX5_refreshRows_23 : decode cX5_refreshRows 23 = .ok (.getfield 10, 3) := by decide +kernel
theorem dX5_refreshRows_26 : decode cX5_refreshRows 26 = .ok (.getfield 228, 3) := by decide +kernel
theorem dX5_refreshRows_29 : decode cX5_refreshRows 29 = .ok (.putfield 225, 3) := by decide +kernel
theorem dX5_refreshRows_32 : decode cX5_refreshRows 32 = .ok (.aload_n 0, 1) := by decide +kernel
theorem dX5_refreshRows_33 : decode cX5_refreshRows 33 = .ok (.getfield 30, 3) := by decide +kernel
theorem dX5_refreshRows_36 : decode cX5_refreshRows 36 = .ok (.aload_n 0, 1) := by decide +kernel
theorem dX5_refreshRows_37 : decode cX5_refreshRows 37 = .ok (.getfield 10, 3) := by decide +kernel
theorem dX5_refreshRows_40 : decode cX5_refreshRows 40 = .ok (.getfield 57, 3) := by decide +kernel
theorem dX5_refreshRows_43 : decode cX5_refreshRows 43 = .ok (.invokevirtual 229, 3) := by decide +kernel
theorem dX5_refreshRows_46 : decode cX5_refreshRows 46 = .ok (.iconst 0, 1) := by decide +kernel
theorem dX5_refreshRows_47 : decode cX5_refreshRows 47 = .ok (.istore_n 1, 1) := by decide +kernel
theorem dX5_refreshRows_48 : decode cX5_refreshRows 48 = .ok (.iload_n 1, 1) := by decide +kernel
theorem dX5_refreshRows_49 : decode cX5_refreshRows 49 = .ok (.aload_n 0, 1) := by decide +kernel
theorem dX5_refreshRows_50 : decode cX5_refreshRows 50 = .ok (.getfield 10, 3) := by decide +kernel
theorem dX5_refreshRows_53 : decode cX5_refreshRows 53 = .ok (.getfield 57, 3) := by decide +kernel
theorem dX5_refreshRows_56 : decode cX5_refreshRows 56 = .ok (.if_icmp .ge 36, 3) := by decide +kernel
theorem dX5_refreshRows_59 : decode cX5_refreshRows 59 = .ok (.aload_n 0, 1) := by decide +kernel
theorem dX5_refreshRows_60 : decode cX5_refreshRows 60 = .ok (.getfield 10, 3) := by decide +kernel
theorem dX5_refreshRows_63 : decode cX5_refreshRows 63 = .ok (.iload_n 1, 1) := by decide +kernel
theorem dX5_refreshRows_64 : decode cX5_refreshRows 64 = .ok (.invokevirtual 232, 3) := by decide +kernel
theorem dX5_refreshRows_67 : decode cX5_refreshRows 67 = .ok (.ifCond .ne 19, 3) := by decide +kernel
theorem dX5_refreshRows_70 : decode cX5_refreshRows 70 = .ok (.aload_n 0, 1) := by decide +kernel
theorem dX5_refreshRows_71 : decode cX5_refreshRows 71 = .ok (.getfield 30, 3) := by decide +kernel
theorem dX5_refreshRows_74 : decode cX5_refreshRows 74 = .ok (.iload_n 1, 1) := by decide +kernel
theorem dX5_refreshRows_75 : decode cX5_refreshRows 75 = .ok (.aload_n 0, 1) := by decide +kernel
theorem dX5_refreshRows_76 : decode cX5_refreshRows 76 = .ok (.getfield 10, 3) := by decide +kernel
theorem dX5_refreshRows_79 : decode cX5_refreshRows 79 = .ok (.iload_n 1, 1) := by decide +kernel
theorem dX5_refreshRows_80 : decode cX5_refreshRows 80 = .ok (.invokevirtual 235, 3) := by decide +kernel
theorem dX5_refreshRows_83 : decode cX5_refreshRows 83 = .ok (.invokevirtual 239, 3) := by decide +kernel
theorem dX5_refreshRows_86 : decode cX5_refreshRows 86 = .ok (.iinc 1 1, 3) := by decide +kernel
theorem dX5_refreshRows_89 : decode cX5_refreshRows 89 = .ok (.goto (-41), 3) := by decide +kernel
theorem dX5_refreshRows_92 : decode cX5_refreshRows 92 = .ok (.aload_n 0, 1) := by decide +kernel
theorem dX5_refreshRows_93 : decode cX5_refreshRows 93 = .ok (.getfield 30, 3) := by decide +kernel
theorem dX5_refreshRows_96 : decode cX5_refreshRows 96 = .ok (.invokevirtual 243, 3) := by decide +kernel
theorem dX5_refreshRows_99 : decode cX5_refreshRows 99 = .ok (.return_, 1) := by decide +kernel
theorem dX5_refreshRounds_0 : decode cX5_refreshRounds 0 = .ok (.aload_n 0, 1) := by decide +kernel
theorem dX5_refreshRounds_1 : decode cX5_refreshRounds 1 = .ok (.getfield 34, 3) := by decide +kernel
theorem dX5_refreshRounds_4 : decode cX5_refreshRounds 4 = .ok (.getfield 225, 3) := by decide +kernel
theorem dX5_refreshRounds_7 : decode cX5_refreshRounds 7 = .ok (.aload_n 0, 1) := by decide +kernel
theorem dX5_refreshRounds_8 : decode cX5_refreshRounds 8 = .ok (.getfield 10, 3) := by decide +kernel
theorem dX5_refreshRounds_11 : decode cX5_refreshRounds 11 = .ok (.getfield 228, 3) := by decide +kernel
theorem dX5_refreshRounds_14 : decode cX5_refreshRounds 14 = .ok (.if_icmp .ne 4, 3) := by decide +kernel
theorem dX5_refreshRounds_17 : decode cX5_refreshRounds 17 = .ok (.return_, 1) := by decide +kernel
theorem dX5_refreshRounds_18 : decode cX5_refreshRounds 18 = .ok (.aload_n 0, 1) := by decide +kernel
theorem dX5_refreshRounds_19 : decode cX5_refreshRounds 19 = .ok (.getfield 34, 3) := by decide +kernel
theorem dX5_refreshRounds_22 : decode cX5_refreshRounds 22 = .ok (.aload_n 0, 1) := by decide +kernel
theorem dX5_refreshRounds_23 : decode cX5_refreshRounds 23 = .ok (.getfield 10, 3) := by decide +kernel
theorem dX5_refreshRounds_26 : decode cX5_refreshRounds 26 = .ok (.getfield 228, 3) := by decide +kernel
theorem dX5_refreshRounds_29 : decode cX5_refreshRounds 29 = .ok (.putfield 225, 3) := by decide +kernel
theorem dX5_refreshRounds_32 : decode cX5_refreshRounds 32 = .ok (.aload_n 0, 1) := by decide +kernel
theorem dX5_refreshRounds_33 : decode cX5_refreshRounds 33 = .ok (.getfield 34, 3) := by decide +kernel
theorem dX5_refreshRounds_36 : decode cX5_refreshRounds 36 = .ok (.aload_n 0, 1) := by decide +kernel
theorem dX5_refreshRounds_37 : decode cX5_refreshRounds 37 = .ok (.getfield 10, 3) := by decide +kernel
theorem dX5_refreshRounds_40 : decode cX5_refreshRounds 40 = .ok (.getfield 72, 3) := by decide +kernel
theorem dX5_refreshRounds_43 : decode cX5_refreshRounds 43 = .ok (.invokevirtual 229, 3) := by decide +kernel
theorem dX5_refreshRounds_46 : decode cX5_refreshRounds 46 = .ok (.iconst 0, 1) := by decide +kernel
theorem dX5_refreshRounds_47 : decode cX5_refreshRounds 47 = .ok (.istore_n 1, 1) := by decide +kernel
theorem dX5_refreshRounds_48 : decode cX5_refreshRounds 48 = .ok (.iload_n 1, 1) := by decide +kernel
theorem dX5_refreshRounds_49 : decode cX5_refreshRounds 49 = .ok (.aload_n 0, 1) := by decide +kernel
theorem dX5_refreshRounds_50 : decode cX5_refreshRounds 50 = .ok (.getfield 10, 3) := by decide +kernel
theorem dX5_refreshRounds_53 : decode cX5_refreshRounds 53 = .ok (.getfield 72, 3) := by decide +kernel
theorem dX5_refreshRounds_56 : decode cX5_refreshRounds 56 = .ok (.if_icmp .ge 37, 3) := by decide +kernel
theorem dX5_refreshRounds_59 : decode cX5_refreshRounds 59 = .ok (.aload_n 0, 1) := by decide +kernel
theorem dX5_refreshRounds_60 : decode cX5_refreshRounds 60 = .ok (.getfield 10, 3) := by decide +kernel
theorem dX5_refreshRounds_63 : decode cX5_refreshRounds 63 = .ok (.iconst 4, 1) := by decide +kernel
theorem dX5_refreshRounds_64 : decode cX5_refreshRounds 64 = .ok (.iload_n 1, 1) := by decide +kernel
theorem dX5_refreshRounds_65 : decode cX5_refreshRounds 65 = .ok (.invokevirtual 246, 3) := by decide +kernel
theorem dX5_refreshRounds_68 : decode cX5_refreshRounds 68 = .ok (.ifCond .ne 19, 3) := by decide +kernel
theorem dX5_refreshRounds_71 : decode cX5_refreshRounds 71 = .ok (.aload_n 0, 1) := by decide +kernel
theorem dX5_refreshRounds_72 : decode cX5_refreshRounds 72 = .ok (.getfield 34, 3) := by decide +kernel
theorem dX5_refreshRounds_75 : decode cX5_refreshRounds 75 = .ok (.iload_n 1, 1) := by decide +kernel
theorem dX5_refreshRounds_76 : decode cX5_refreshRounds 76 = .ok (.aload_n 0, 1) := by decide +kernel
theorem dX5_refreshRounds_77 : decode cX5_refreshRounds 77 = .ok (.getfield 10, 3) := by decide +kernel
theorem dX5_refreshRounds_80 : decode cX5_refreshRounds 80 = .ok (.iload_n 1, 1) := by decide +kernel
theorem dX5_refreshRounds_81 : decode cX5_refreshRounds 81 = .ok (.invokevirtual 249, 3) := by decide +kernel
theorem dX5_refreshRounds_84 : decode cX5_refreshRounds 84 = .ok (.invokevirtual 239, 3) := by decide +kernel
theorem dX5_refreshRounds_87 : decode cX5_refreshRounds 87 = .ok (.iinc 1 1, 3) := by decide +kernel
theorem dX5_refreshRounds_90 : decode cX5_refreshRounds 90 = .ok (.goto (-42), 3) := by decide +kernel
theorem dX5_refreshRounds_93 : decode cX5_refreshRounds 93 = .ok (.aload_n 0, 1) := by decide +kernel
theorem dX5_refreshRounds_94 : decode cX5_refreshRounds 94 = .ok (.getfield 34, 3) := by decide +kernel
theorem dX5_refreshRounds_97 : decode cX5_refreshRounds 97 = .ok (.invokevirtual 243, 3) := by decide +kernel
theorem dX5_refreshRounds_100 : decode cX5_refreshRounds 100 = .ok (.return_, 1) := by decide +kernel
theorem dX5_sumOfRow_0 : decode cX5_sumOfRow 0 = .ok (.iconst 0, 1) := by decide +kernel
theorem dX5_sumOfRow_1 : decode cX5_sumOfRow 1 = .ok (.istore 4, 2) := by decide +kernel
theorem dX5_sumOfRow_3 : decode cX5_sumOfRow 3 = .ok (.iconst 0, 1) := by decide +kernel
theorem dX5_sumOfRow_4 : decode cX5_sumOfRow 4 = .ok (.istore 5, 2) := by decide +kernel
theorem dX5_sumOfRow_6 : decode cX5_sumOfRow 6 = .ok (.iload 5, 2) := by decide +kernel
theorem dX5_sumOfRow_8 : decode cX5_sumOfRow 8 = .ok (.aload_n 0, 1) := by decide +kernel
theorem dX5_sumOfRow_9 : decode cX5_sumOfRow 9 = .ok (.getfield 10, 3) := by decide +kernel
theorem dX5_sumOfRow_12 : decode cX5_sumOfRow 12 = .ok (.getfield 57, 3) := by decide +kernel
theorem dX5_sumOfRow_15 : decode cX5_sumOfRow 15 = .ok (.if_icmp .ge 31, 3) := by decide +kernel
theorem dX5_sumOfRow_18 : decode cX5_sumOfRow 18 = .ok (.iload 4, 2) := by decide +kernel
theorem dX5_sumOfRow_20 : decode cX5_sumOfRow 20 = .ok (.aload_n 0, 1) := by decide +kernel
theorem dX5_sumOfRow_21 : decode cX5_sumOfRow 21 = .ok (.getfield 30, 3) := by decide +kernel
theorem dX5_sumOfRow_24 : decode cX5_sumOfRow 24 = .ok (.iload_n 1, 1) := by decide +kernel
theorem dX5_sumOfRow_25 : decode cX5_sumOfRow 25 = .ok (.iload 5, 2) := by decide +kernel
theorem dX5_sumOfRow_27 : decode cX5_sumOfRow 27 = .ok (.invokevirtual 169, 3) := by decide +kernel
theorem dX5_sumOfRow_30 : decode cX5_sumOfRow 30 = .ok (.lload_n 2, 1) := by decide +kernel
theorem dX5_sumOfRow_31 : decode cX5_sumOfRow 31 = .ok (.iload 5, 2) := by decide +kernel
theorem dX5_sumOfRow_33 : decode cX5_sumOfRow 33 = .ok (.invokestatic 102, 3) := by decide +kernel
theorem dX5_sumOfRow_36 : decode cX5_sumOfRow 36 = .ok (.imul, 1) := by decide +kernel
theorem dX5_sumOfRow_37 : decode cX5_sumOfRow 37 = .ok (.iadd, 1) := by decide +kernel
theorem dX5_sumOfRow_38 : decode cX5_sumOfRow 38 = .ok (.istore 4, 2) := by decide +kernel
theorem dX5_sumOfRow_40 : decode cX5_sumOfRow 40 = .ok (.iinc 5 1, 3) := by decide +kernel
theorem dX5_sumOfRow_43 : decode cX5_sumOfRow 43 = .ok (.goto (-37), 3) := by decide +kernel
theorem dX5_sumOfRow_46 : decode cX5_sumOfRow 46 = .ok (.iload 4, 2) := by decide +kernel
theorem dX5_sumOfRow_48 : decode cX5_sumOfRow 48 = .ok (.ireturn, 1) := by decide +kernel
theorem dX5_boundByRows_0 : decode cX5_boundByRows 0 = .ok (.iconst (-1), 1) := by decide +kernel
theorem dX5_boundByRows_1 : decode cX5_boundByRows 1 = .ok (.istore_n 2, 1) := by decide +kernel
theorem dX5_boundByRows_2 : decode cX5_boundByRows 2 = .ok (.iconst 0, 1) := by decide +kernel
theorem dX5_boundByRows_3 : decode cX5_boundByRows 3 = .ok (.istore_n 3, 1) := by decide +kernel
theorem dX5_boundByRows_4 : decode cX5_boundByRows 4 = .ok (.iload_n 3, 1) := by decide +kernel
theorem dX5_boundByRows_5 : decode cX5_boundByRows 5 = .ok (.aload_n 0, 1) := by decide +kernel
theorem dX5_boundByRows_6 : decode cX5_boundByRows 6 = .ok (.getfield 30, 3) := by decide +kernel
theorem dX5_boundByRows_9 : decode cX5_boundByRows 9 = .ok (.getfield 163, 3) := by decide +kernel
theorem dX5_boundByRows_12 : decode cX5_boundByRows 12 = .ok (.if_icmp .ge 59, 3) := by decide +kernel
theorem dX5_boundByRows_15 : decode cX5_boundByRows 15 = .ok (.aload_n 0, 1) := by decide +kernel
theorem dX5_boundByRows_16 : decode cX5_boundByRows 16 = .ok (.getfield 30, 3) := by decide +kernel
theorem dX5_boundByRows_19 : decode cX5_boundByRows 19 = .ok (.iload_n 3, 1) := by decide +kernel
theorem dX5_boundByRows_20 : decode cX5_boundByRows 20 = .ok (.iload_n 1, 1) := by decide +kernel
theorem dX5_boundByRows_21 : decode cX5_boundByRows 21 = .ok (.invokevirtual 169, 3) := by decide +kernel
theorem dX5_boundByRows_24 : decode cX5_boundByRows 24 = .ok (.istore 4, 2) := by decide +kernel
theorem dX5_boundByRows_26 : decode cX5_boundByRows 26 = .ok (.iload 4, 2) := by decide +kernel
theorem dX5_boundByRows_28 : decode cX5_boundByRows 28 = .ok (.ifCond .le 37, 3) := by decide +kernel
theorem dX5_boundByRows_31 : decode cX5_boundByRows 31 = .ok (.aload_n 0, 1) := by decide +kernel
theorem dX5_boundByRows_32 : decode cX5_boundByRows 32 = .ok (.iload_n 3, 1) := by decide +kernel
theorem dX5_boundByRows_33 : decode cX5_boundByRows 33 = .ok (.aload_n 0, 1) := by decide +kernel
theorem dX5_boundByRows_34 : decode cX5_boundByRows 34 = .ok (.getfield 10, 3) := by decide +kernel
theorem dX5_boundByRows_37 : decode cX5_boundByRows 37 = .ok (.getfield 98, 3) := by decide +kernel
theorem dX5_boundByRows_40 : decode cX5_boundByRows 40 = .ok (.invokevirtual 252, 3) := by decide +kernel
theorem dX5_boundByRows_43 : decode cX5_boundByRows 43 = .ok (.iload 4, 2) := by decide +kernel
theorem dX5_boundByRows_45 : decode cX5_boundByRows 45 = .ok (.idiv, 1) := by decide +kernel
theorem dX5_boundByRows_46 : decode cX5_boundByRows 46 = .ok (.istore 5, 2) := by decide +kernel
theorem dX5_boundByRows_48 : decode cX5_boundByRows 48 = .ok (.iload_n 2, 1) := by decide +kernel
theorem dX5_boundByRows_49 : decode cX5_boundByRows 49 = .ok (.iconst (-1), 1) := by decide +kernel
theorem dX5_boundByRows_50 : decode cX5_boundByRows 50 = .ok (.if_icmp .ne 8, 3) := by decide +kernel
theorem dX5_boundByRows_53 : decode cX5_boundByRows 53 = .ok (.iload 5, 2) := by decide +kernel
theorem dX5_boundByRows_55 : decode cX5_boundByRows 55 = .ok (.goto 9, 3) := by decide +kernel
theorem dX5_boundByRows_58 : decode cX5_boundByRows 58 = .ok (.iload_n 2, 1) := by decide +kernel
theorem dX5_boundByRows_59 : decode cX5_boundByRows 59 = .ok (.iload 5, 2) := by decide +kernel
theorem dX5_boundByRows_61 : decode cX5_boundByRows 61 = .ok (.invokestatic 256, 3) := by decide +kernel
theorem dX5_boundByRows_64 : decode cX5_boundByRows 64 = .ok (.istore_n 2, 1) := by decide +kernel
theorem dX5_boundByRows_65 : decode cX5_boundByRows 65 = .ok (.iinc 3 1, 3) := by decide +kernel
theorem dX5_boundByRows_68 : decode cX5_boundByRows 68 = .ok (.goto (-64), 3) := by decide +kernel
theorem dX5_boundByRows_71 : decode cX5_boundByRows 71 = .ok (.iload_n 2, 1) := by decide +kernel
theorem dX5_boundByRows_72 : decode cX5_boundByRows 72 = .ok (.ireturn, 1) := by decide +kernel
theorem dX5_rowsKeepTheirSums_0 : decode cX5_rowsKeepTheirSums 0 = .ok (.iconst 0, 1) := by decide +kernel
theorem dX5_rowsKeepTheirSums_1 : decode cX5_rowsKeepTheirSums 1 = .ok (.istore_n 1, 1) := by decide +kernel
theorem dX5_rowsKeepTheirSums_2 : decode cX5_rowsKeepTheirSums 2 = .ok (.iload_n 1, 1) := by decide +kernel
theorem dX5_rowsKeepTheirSums_3 : decode cX5_rowsKeepTheirSums 3 = .ok (.aload_n 0, 1) := by decide +kernel
theorem dX5_rowsKeepTheirSums_4 : decode cX5_rowsKeepTheirSums 4 = .ok (.getfield 30, 3) := by decide +kernel
theorem dX5_rowsKeepTheirSums_7 : decode cX5_rowsKeepTheirSums 7 = .ok (.getfield 163, 3) := by decide +kernel
theorem dX5_rowsKeepTheirSums_10 : decode cX5_rowsKeepTheirSums 10 = .ok (.if_icmp .ge 60, 3) := by decide +kernel
theorem dX5_rowsKeepTheirSums_13 : decode cX5_rowsKeepTheirSums 13 = .ok (.aload_n 0, 1) := by decide +kernel
theorem dX5_rowsKeepTheirSums_14 : decode cX5_rowsKeepTheirSums 14 = .ok (.iload_n 1, 1) := by decide +kernel
theorem dX5_rowsKeepTheirSums_15 : decode cX5_rowsKeepTheirSums 15 = .ok (.aload_n 0, 1) := by decide +kernel
theorem dX5_rowsKeepTheirSums_16 : decode cX5_rowsKeepTheirSums 16 = .ok (.getfield 10, 3) := by decide +kernel
theorem dX5_rowsKeepTheirSums_19 : decode cX5_rowsKeepTheirSums 19 = .ok (.getfield 98, 3) := by decide +kernel
theorem dX5_rowsKeepTheirSums_22 : decode cX5_rowsKeepTheirSums 22 = .ok (.invokevirtual 252, 3) := by decide +kernel
theorem dX5_rowsKeepTheirSums_25 : decode cX5_rowsKeepTheirSums 25 = .ok (.istore_n 2, 1) := by decide +kernel
theorem dX5_rowsKeepTheirSums_26 : decode cX5_rowsKeepTheirSums 26 = .ok (.iconst 0, 1) := by decide +kernel
theorem dX5_rowsKeepTheirSums_27 : decode cX5_rowsKeepTheirSums 27 = .ok (.istore_n 3, 1) := by decide +kernel
theorem dX5_rowsKeepTheirSums_28 : decode cX5_rowsKeepTheirSums 28 = .ok (.iload_n 3, 1) := by decide +kernel
theorem dX5_rowsKeepTheirSums_29 : decode cX5_rowsKeepTheirSums 29 = .ok (.aload_n 0, 1) := by decide +kernel
theorem dX5_rowsKeepTheirSums_30 : decode cX5_rowsKeepTheirSums 30 = .ok (.getfield 21, 3) := by decide +kernel
theorem dX5_rowsKeepTheirSums_33 : decode cX5_rowsKeepTheirSums 33 = .ok (.getfield 124, 3) := by decide +kernel
theorem dX5_rowsKeepTheirSums_36 : decode cX5_rowsKeepTheirSums 36 = .ok (.if_icmp .ge 28, 3) := by decide +kernel
theorem dX5_rowsKeepTheirSums_39 : decode cX5_rowsKeepTheirSums 39 = .ok (.aload_n 0, 1) := by decide +kernel
theorem dX5_rowsKeepTheirSums_40 : decode cX5_rowsKeepTheirSums 40 = .ok (.iload_n 1, 1) := by decide +kernel
theorem dX5_rowsKeepTheirSums_41 : decode cX5_rowsKeepTheirSums 41 = .ok (.aload_n 0, 1) := by decide +kernel
theorem dX5_rowsKeepTheirSums_42 : decode cX5_rowsKeepTheirSums 42 = .ok (.getfield 21, 3) := by decide +kernel
theorem dX5_rowsKeepTheirSums_45 : decode cX5_rowsKeepTheirSums 45 = .ok (.iload_n 3, 1) := by decide +kernel
theorem dX5_rowsKeepTheirSums_46 : decode cX5_rowsKeepTheirSums 46 = .ok (.invokevirtual 261, 3) := by decide +kernel
theorem dX5_rowsKeepTheirSums_49 : decode cX5_rowsKeepTheirSums 49 = .ok (.invokevirtual 252, 3) := by decide +kernel
theorem dX5_rowsKeepTheirSums_52 : decode cX5_rowsKeepTheirSums 52 = .ok (.iload_n 2, 1) := by decide +kernel
theorem dX5_rowsKeepTheirSums_53 : decode cX5_rowsKeepTheirSums 53 = .ok (.if_icmp .eq 5, 3) := by decide +kernel
theorem dX5_rowsKeepTheirSums_56 : decode cX5_rowsKeepTheirSums 56 = .ok (.iconst 0, 1) := by decide +kernel
theorem dX5_rowsKeepTheirSums_57 : decode cX5_rowsKeepTheirSums 57 = .ok (.ireturn, 1) := by decide +kernel
theorem dX5_rowsKeepTheirSums_58 : decode cX5_rowsKeepTheirSums 58 = .ok (.iinc 3 1, 3) := by decide +kernel
theorem dX5_rowsKeepTheirSums_61 : decode cX5_rowsKeepTheirSums 61 = .ok (.goto (-33), 3) := by decide +kernel
theorem dX5_rowsKeepTheirSums_64 : decode cX5_rowsKeepTheirSums 64 = .ok (.iinc 1 1, 3) := by decide +kernel
theorem dX5_rowsKeepTheirSums_67 : decode cX5_rowsKeepTheirSums 67 = .ok (.goto (-65), 3) := by decide +kernel
theorem dX5_rowsKeepTheirSums_70 : decode cX5_rowsKeepTheirSums 70 = .ok (.iconst 1, 1) := by decide +kernel
theorem dX5_rowsKeepTheirSums_71 : decode cX5_rowsKeepTheirSums 71 = .ok (.ireturn, 1) := by decide +kernel
theorem dX5_placesKeepTheirBounds_0 : decode cX5_placesKeepTheirBounds 0 = .ok (.iconst 0, 1) := by decide +kernel
theorem dX5_placesKeepTheirBounds_1 : decode cX5_placesKeepTheirBounds 1 = .ok (.istore_n 1, 1) := by decide +kernel
theorem dX5_placesKeepTheirBounds_2 : decode cX5_placesKeepTheirBounds 2 = .ok (.iload_n 1, 1) := by decide +kernel
theorem dX5_placesKeepTheirBounds_3 : decode cX5_placesKeepTheirBounds 3 = .ok (.aload_n 0, 1) := by decide +kernel
theorem dX5_placesKeepTheirBounds_4 : decode cX5_placesKeepTheirBounds 4 = .ok (.getfield 10, 3) := by decide +kernel
theorem dX5_placesKeepTheirBounds_7 : decode cX5_placesKeepTheirBounds 7 = .ok (.getfield 57, 3) := by decide +kernel
theorem dX5_placesKeepTheirBounds_10 : decode cX5_placesKeepTheirBounds 10 = .ok (.if_icmp .ge 34, 3) := by decide +kernel
theorem dX5_placesKeepTheirBounds_13 : decode cX5_placesKeepTheirBounds 13 = .ok (.aload_n 0, 1) := by decide +kernel
theorem dX5_placesKeepTheirBounds_14 : decode cX5_placesKeepTheirBounds 14 = .ok (.iload_n 1, 1) := by decide +kernel
theorem dX5_placesKeepTheirBounds_15 : decode cX5_placesKeepTheirBounds 15 = .ok (.invokevirtual 172, 3) := by decide +kernel
theorem dX5_placesKeepTheirBounds_18 : decode cX5_placesKeepTheirBounds 18 = .ok (.istore_n 2, 1) := by decide +kernel
theorem dX5_placesKeepTheirBounds_19 : decode cX5_placesKeepTheirBounds 19 = .ok (.iload_n 2, 1) := by decide +kernel
theorem dX5_placesKeepTheirBounds_20 : decode cX5_placesKeepTheirBounds 20 = .ok (.iconst (-1), 1) := by decide +kernel
theorem dX5_placesKeepTheirBounds_21 : decode cX5_placesKeepTheirBounds 21 = .ok (.if_icmp .eq 17, 3) := by decide +kernel
theorem dX5_placesKeepTheirBounds_24 : decode cX5_placesKeepTheirBounds 24 = .ok (.aload_n 0, 1) := by decide +kernel
theorem dX5_placesKeepTheirBounds_25 : decode cX5_placesKeepTheirBounds 25 = .ok (.getfield 21, 3) := by decide +kernel
theorem dX5_placesKeepTheirBounds_28 : decode cX5_placesKeepTheirBounds 28 = .ok (.iload_n 1, 1) := by decide +kernel
theorem dX5_placesKeepTheirBounds_29 : decode cX5_placesKeepTheirBounds 29 = .ok (.invokevirtual 143, 3) := by decide +kernel
theorem dX5_placesKeepTheirBounds_32 : decode cX5_placesKeepTheirBounds 32 = .ok (.iload_n 2, 1) := by decide +kernel
theorem dX5_placesKeepTheirBounds_33 : decode cX5_placesKeepTheirBounds 33 = .ok (.if_icmp .le 5, 3) := by decide +kernel
theorem dX5_placesKeepTheirBounds_36 : decode cX5_placesKeepTheirBounds 36 = .ok (.iconst 0, 1) := by decide +kernel
theorem dX5_placesKeepTheirBounds_37 : decode cX5_placesKeepTheirBounds 37 = .ok (.ireturn, 1) := by decide +kernel
theorem dX5_placesKeepTheirBounds_38 : decode cX5_placesKeepTheirBounds 38 = .ok (.iinc 1 1, 3) := by decide +kernel
theorem dX5_placesKeepTheirBounds_41 : decode cX5_placesKeepTheirBounds 41 = .ok (.goto (-39), 3) := by decide +kernel
theorem dX5_placesKeepTheirBounds_44 : decode cX5_placesKeepTheirBounds 44 = .ok (.iconst 1, 1) := by decide +kernel
theorem dX5_placesKeepTheirBounds_45 : decode cX5_placesKeepTheirBounds 45 = .ok (.ireturn, 1) := by decide +kernel
theorem dJ9_max_7cf53_0 : decode cJ9_max_7cf53 0 = .ok (.iload_n 0, 1) := by decide +kernel
theorem dJ9_max_7cf53_1 : decode cJ9_max_7cf53 1 = .ok (.iload_n 1, 1) := by decide +kernel
theorem dJ9_max_7cf53_2 : decode cJ9_max_7cf53 2 = .ok (.if_icmp .lt 7, 3) := by decide +kernel
theorem dJ9_max_7cf53_5 : decode cJ9_max_7cf53 5 = .ok (.iload_n 0, 1) := by decide +kernel
theorem dJ9_max_7cf53_6 : decode cJ9_max_7cf53 6 = .ok (.goto 4, 3) := by decide +kernel
theorem dJ9_max_7cf53_9 : decode cJ9_max_7cf53 9 = .ok (.iload_n 1, 1) := by decide +kernel
theorem dJ9_max_7cf53_10 : decode cJ9_max_7cf53 10 = .ok (.ireturn, 1) := by decide +kernel
theorem dJ9_min_7cf53_0 : decode cJ9_min_7cf53 0 = .ok (.iload_n 0, 1) := by decide +kernel
theorem dJ9_min_7cf53_1 : decode cJ9_min_7cf53 1 = .ok (.iload_n 1, 1) := by decide +kernel
theorem dJ9_min_7cf53_2 : decode cJ9_min_7cf53 2 = .ok (.if_icmp .gt 7, 3) := by decide +kernel
theorem dJ9_min_7cf53_5 : decode cJ9_min_7cf53 5 = .ok (.iload_n 0, 1) := by decide +kernel
theorem dJ9_min_7cf53_6 : decode cJ9_min_7cf53 6 = .ok (.goto 4, 3) := by decide +kernel
theorem dJ9_min_7cf53_9 : decode cJ9_min_7cf53 9 = .ok (.iload_n 1, 1) := by decide +kernel
theorem dJ9_min_7cf53_10 : decode cJ9_min_7cf53 10 = .ok (.ireturn, 1) := by decide +kernel
theorem dJ7_fill_53178_0 : decode cJ7_fill_53178 0 = .ok (.iconst 0, 1) := by decide +kernel
theorem dJ7_fill_53178_1 : decode cJ7_fill_53178 1 = .ok (.istore_n 2, 1) := by decide +kernel
theorem dJ7_fill_53178_2 : decode cJ7_fill_53178 2 = .ok (.aload_n 0, 1) := by decide +kernel
theorem dJ7_fill_53178_3 : decode cJ7_fill_53178 3 = .ok (.arraylength, 1) := by decide +kernel
theorem dJ7_fill_53178_4 : decode cJ7_fill_53178 4 = .ok (.istore_n 3, 1) := by decide +kernel
theorem dJ7_fill_53178_5 : decode cJ7_fill_53178 5 = .ok (.iload_n 2, 1) := by decide +kernel
theorem dJ7_fill_53178_6 : decode cJ7_fill_53178 6 = .ok (.iload_n 3, 1) := by decide +kernel
theorem dJ7_fill_53178_7 : decode cJ7_fill_53178 7 = .ok (.if_icmp .ge 13, 3) := by decide +kernel
theorem dJ7_fill_53178_10 : decode cJ7_fill_53178 10 = .ok (.aload_n 0, 1) := by decide +kernel
theorem dJ7_fill_53178_11 : decode cJ7_fill_53178 11 = .ok (.iload_n 2, 1) := by decide +kernel
theorem dJ7_fill_53178_12 : decode cJ7_fill_53178 12 = .ok (.iload_n 1, 1) := by decide +kernel
theorem dJ7_fill_53178_13 : decode cJ7_fill_53178 13 = .ok (.iastore, 1) := by decide +kernel
theorem dJ7_fill_53178_14 : decode cJ7_fill_53178 14 = .ok (.iinc 2 1, 3) := by decide +kernel
theorem dJ7_fill_53178_17 : decode cJ7_fill_53178 17 = .ok (.goto (-12), 3) := by decide +kernel
theorem dJ7_fill_53178_20 : decode cJ7_fill_53178 20 = .ok (.return_, 1) := by decide +kernel
theorem dL_cell_0 : decode cL_cell 0 = .ok (.iload_n 1, 1) := by decide +kernel
theorem dL_cell_1 : decode cL_cell 1 = .ok (.aload_n 0, 1) := by decide +kernel
theorem dL_cell_2 : decode cL_cell 2 = .ok (.arraylength, 1) := by decide +kernel
theorem dL_cell_3 : decode cL_cell 3 = .ok (.if_icmp .ge 9, 3) := by decide +kernel
theorem dL_cell_6 : decode cL_cell 6 = .ok (.aload_n 0, 1) := by decide +kernel
theorem dL_cell_7 : decode cL_cell 7 = .ok (.iload_n 1, 1) := by decide +kernel
theorem dL_cell_8 : decode cL_cell 8 = .ok (.iaload, 1) := by decide +kernel
theorem dL_cell_9 : decode cL_cell 9 = .ok (.goto 18, 3) := by decide +kernel
theorem dL_cell_12 : decode cL_cell 12 = .ok (.sipush 7919, 3) := by decide +kernel
theorem dL_cell_15 : decode cL_cell 15 = .ok (.iload_n 1, 1) := by decide +kernel
theorem dL_cell_16 : decode cL_cell 16 = .ok (.sipush 3001, 3) := by decide +kernel
theorem dL_cell_19 : decode cL_cell 19 = .ok (.iadd, 1) := by decide +kernel
theorem dL_cell_20 : decode cL_cell 20 = .ok (.imul, 1) := by decide +kernel
theorem dL_cell_21 : decode cL_cell 21 = .ok (.iload_n 1, 1) := by decide +kernel
theorem dL_cell_22 : decode cL_cell 22 = .ok (.sipush 683, 3) := by decide +kernel
theorem dL_cell_25 : decode cL_cell 25 = .ok (.iadd, 1) := by decide +kernel
theorem dL_cell_26 : decode cL_cell 26 = .ok (.imul, 1) := by decide +kernel
theorem dL_cell_27 : decode cL_cell 27 = .ok (.ireturn, 1) := by decide +kernel
theorem dL_low_0 : decode cL_low 0 = .ok (.iload_n 0, 1) := by decide +kernel
theorem dL_low_1 : decode cL_low 1 = .ok (.ldc 7, 2) := by decide +kernel
theorem dL_low_3 : decode cL_low 3 = .ok (.iand, 1) := by decide +kernel
theorem dL_low_4 : decode cL_low 4 = .ok (.iload_n 1, 1) := by decide +kernel
theorem dL_low_5 : decode cL_low 5 = .ok (.irem, 1) := by decide +kernel
theorem dL_low_6 : decode cL_low 6 = .ok (.ireturn, 1) := by decide +kernel
theorem dL_place_0 : decode cL_place 0 = .ok (.aload_n 0, 1) := by decide +kernel
theorem dL_place_1 : decode cL_place 1 = .ok (.iload_n 1, 1) := by decide +kernel
theorem dL_place_2 : decode cL_place 2 = .ok (.invokevirtual 8, 3) := by decide +kernel
theorem dL_place_5 : decode cL_place 5 = .ok (.ireturn, 1) := by decide +kernel
theorem dL_place_6 : decode cL_place 6 = .ok (.astore_n 2, 1) := by decide +kernel
theorem dL_place_7 : decode cL_place 7 = .ok (.ldc 16, 2) := by decide +kernel
theorem dL_place_9 : decode cL_place 9 = .ok (.ireturn, 1) := by decide +kernel
theorem dL_place_10 : decode cL_place 10 = .ok (.astore_n 2, 1) := by decide +kernel
theorem dL_place_11 : decode cL_place 11 = .ok (.ldc 16, 2) := by decide +kernel
theorem dL_place_13 : decode cL_place 13 = .ok (.ireturn, 1) := by decide +kernel
theorem dL_firing_0 : decode cL_firing 0 = .ok (.aload_n 0, 1) := by decide +kernel
theorem dL_firing_1 : decode cL_firing 1 = .ok (.invokevirtual 19, 3) := by decide +kernel
theorem dL_firing_4 : decode cL_firing 4 = .ok (.ireturn, 1) := by decide +kernel
theorem dL_firing_5 : decode cL_firing 5 = .ok (.astore_n 1, 1) := by decide +kernel
theorem dL_firing_6 : decode cL_firing 6 = .ok (.ldc 16, 2) := by decide +kernel
theorem dL_firing_8 : decode cL_firing 8 = .ok (.ireturn, 1) := by decide +kernel
theorem dL_arc_0 : decode cL_arc 0 = .ok (.aload_n 0, 1) := by decide +kernel
theorem dL_arc_1 : decode cL_arc 1 = .ok (.iload_n 1, 1) := by decide +kernel
theorem dL_arc_2 : decode cL_arc 2 = .ok (.iload_n 2, 1) := by decide +kernel
theorem dL_arc_3 : decode cL_arc 3 = .ok (.iload_n 3, 1) := by decide +kernel
theorem dL_arc_4 : decode cL_arc 4 = .ok (.iload 4, 2) := by decide +kernel
theorem dL_arc_6 : decode cL_arc 6 = .ok (.invokevirtual 23, 3) := by decide +kernel
theorem dL_arc_9 : decode cL_arc 9 = .ok (.ireturn, 1) := by decide +kernel
theorem dL_arc_10 : decode cL_arc 10 = .ok (.astore 5, 2) := by decide +kernel
theorem dL_arc_12 : decode cL_arc 12 = .ok (.ldc 16, 2) := by decide +kernel
theorem dL_arc_14 : decode cL_arc 14 = .ok (.ireturn, 1) := by decide +kernel
theorem dL_arc_15 : decode cL_arc 15 = .ok (.astore 5, 2) := by decide +kernel
theorem dL_arc_17 : decode cL_arc 17 = .ok (.ldc 16, 2) := by decide +kernel
theorem dL_arc_19 : decode cL_arc 19 = .ok (.ireturn, 1) := by decide +kernel
theorem dL_tokens_0 : decode cL_tokens 0 = .ok (.aload_n 0, 1) := by decide +kernel
theorem dL_tokens_1 : decode cL_tokens 1 = .ok (.iload_n 1, 1) := by decide +kernel
theorem dL_tokens_2 : decode cL_tokens 2 = .ok (.invokevirtual 29, 3) := by decide +kernel
theorem dL_tokens_5 : decode cL_tokens 5 = .ok (.ireturn, 1) := by decide +kernel
theorem dL_tokens_6 : decode cL_tokens 6 = .ok (.astore_n 2, 1) := by decide +kernel
theorem dL_tokens_7 : decode cL_tokens 7 = .ok (.ldc 16, 2) := by decide +kernel
theorem dL_tokens_9 : decode cL_tokens 9 = .ok (.ireturn, 1) := by decide +kernel
theorem dL_can_0 : decode cL_can 0 = .ok (.aload_n 0, 1) := by decide +kernel
theorem dL_can_1 : decode cL_can 1 = .ok (.iload_n 1, 1) := by decide +kernel
theorem dL_can_2 : decode cL_can 2 = .ok (.invokevirtual 32, 3) := by decide +kernel
theorem dL_can_5 : decode cL_can 5 = .ok (.ifCond .eq 7, 3) := by decide +kernel
theorem dL_can_8 : decode cL_can 8 = .ok (.iconst 1, 1) := by decide +kernel
theorem dL_can_9 : decode cL_can 9 = .ok (.goto 4, 3) := by decide +kernel
theorem dL_can_12 : decode cL_can 12 = .ok (.iconst 0, 1) := by decide +kernel
theorem dL_can_13 : decode cL_can 13 = .ok (.ireturn, 1) := by decide +kernel
theorem dL_can_14 : decode cL_can 14 = .ok (.astore_n 2, 1) := by decide +kernel
theorem dL_can_15 : decode cL_can 15 = .ok (.ldc 16, 2) := by decide +kernel
theorem dL_can_17 : decode cL_can 17 = .ok (.ireturn, 1) := by decide +kernel
theorem dL_fire_0 : decode cL_fire 0 = .ok (.aload_n 0, 1) := by decide +kernel
theorem dL_fire_1 : decode cL_fire 1 = .ok (.iload_n 1, 1) := by decide +kernel
theorem dL_fire_2 : decode cL_fire 2 = .ok (.invokevirtual 36, 3) := by decide +kernel
theorem dL_fire_5 : decode cL_fire 5 = .ok (.ireturn, 1) := by decide +kernel
theorem dL_fire_6 : decode cL_fire 6 = .ok (.astore_n 2, 1) := by decide +kernel
theorem dL_fire_7 : decode cL_fire 7 = .ok (.ldc 16, 2) := by decide +kernel
theorem dL_fire_9 : decode cL_fire 9 = .ok (.ireturn, 1) := by decide +kernel
theorem dL_fire_10 : decode cL_fire 10 = .ok (.astore_n 2, 1) := by decide +kernel
theorem dL_fire_11 : decode cL_fire 11 = .ok (.ldc 16, 2) := by decide +kernel
theorem dL_fire_13 : decode cL_fire 13 = .ok (.ireturn, 1) := by decide +kernel
theorem dL_graph_0 : decode cL_graph 0 = .ok (.aload_n 0, 1) := by decide +kernel
theorem dL_graph_1 : decode cL_graph 1 = .ok (.iload_n 1, 1) := by decide +kernel
theorem dL_graph_2 : decode cL_graph 2 = .ok (.invokevirtual 39, 3) := by decide +kernel
theorem dL_graph_5 : decode cL_graph 5 = .ok (.ireturn, 1) := by decide +kernel
theorem dL_graph_6 : decode cL_graph 6 = .ok (.astore_n 2, 1) := by decide +kernel
theorem dL_graph_7 : decode cL_graph 7 = .ok (.ldc 16, 2) := by decide +kernel
theorem dL_graph_9 : decode cL_graph 9 = .ok (.ireturn, 1) := by decide +kernel
theorem dL_marking_0 : decode cL_marking 0 = .ok (.aload_n 0, 1) := by decide +kernel
theorem dL_marking_1 : decode cL_marking 1 = .ok (.iload_n 1, 1) := by decide +kernel
theorem dL_marking_2 : decode cL_marking 2 = .ok (.iload_n 2, 1) := by decide +kernel
theorem dL_marking_3 : decode cL_marking 3 = .ok (.invokevirtual 42, 3) := by decide +kernel
theorem dL_marking_6 : decode cL_marking 6 = .ok (.ireturn, 1) := by decide +kernel
theorem dL_marking_7 : decode cL_marking 7 = .ok (.astore_n 3, 1) := by decide +kernel
theorem dL_marking_8 : decode cL_marking 8 = .ok (.ldc 16, 2) := by decide +kernel
theorem dL_marking_10 : decode cL_marking 10 = .ok (.ireturn, 1) := by decide +kernel
theorem dL_marking_11 : decode cL_marking 11 = .ok (.astore_n 3, 1) := by decide +kernel
theorem dL_marking_12 : decode cL_marking 12 = .ok (.ldc 16, 2) := by decide +kernel
theorem dL_marking_14 : decode cL_marking 14 = .ok (.ireturn, 1) := by decide +kernel
theorem dL_most_0 : decode cL_most 0 = .ok (.aload_n 0, 1) := by decide +kernel
theorem dL_most_1 : decode cL_most 1 = .ok (.iload_n 1, 1) := by decide +kernel
theorem dL_most_2 : decode cL_most 2 = .ok (.invokevirtual 46, 3) := by decide +kernel
theorem dL_most_5 : decode cL_most 5 = .ok (.ireturn, 1) := by decide +kernel
theorem dL_most_6 : decode cL_most 6 = .ok (.astore_n 2, 1) := by decide +kernel
theorem dL_most_7 : decode cL_most 7 = .ok (.ldc 16, 2) := by decide +kernel
theorem dL_most_9 : decode cL_most 9 = .ok (.ireturn, 1) := by decide +kernel
theorem dL_level_0 : decode cL_level 0 = .ok (.aload_n 0, 1) := by decide +kernel
theorem dL_level_1 : decode cL_level 1 = .ok (.iload_n 1, 1) := by decide +kernel
theorem dL_level_2 : decode cL_level 2 = .ok (.invokevirtual 49, 3) := by decide +kernel
theorem dL_level_5 : decode cL_level 5 = .ok (.ireturn, 1) := by decide +kernel
theorem dL_level_6 : decode cL_level 6 = .ok (.astore_n 2, 1) := by decide +kernel
theorem dL_level_7 : decode cL_level 7 = .ok (.ldc 16, 2) := by decide +kernel
theorem dL_level_9 : decode cL_level 9 = .ok (.ireturn, 1) := by decide +kernel
theorem dL_way_0 : decode cL_way 0 = .ok (.aload_n 0, 1) := by decide +kernel
theorem dL_way_1 : decode cL_way 1 = .ok (.iload_n 1, 1) := by decide +kernel
theorem dL_way_2 : decode cL_way 2 = .ok (.iload_n 2, 1) := by decide +kernel
theorem dL_way_3 : decode cL_way 3 = .ok (.invokevirtual 52, 3) := by decide +kernel
theorem dL_way_6 : decode cL_way 6 = .ok (.ireturn, 1) := by decide +kernel
theorem dL_way_7 : decode cL_way 7 = .ok (.astore_n 3, 1) := by decide +kernel
theorem dL_way_8 : decode cL_way 8 = .ok (.ldc 16, 2) := by decide +kernel
theorem dL_way_10 : decode cL_way 10 = .ok (.ireturn, 1) := by decide +kernel
theorem dL_way_11 : decode cL_way 11 = .ok (.astore_n 3, 1) := by decide +kernel
theorem dL_way_12 : decode cL_way 12 = .ok (.ldc 16, 2) := by decide +kernel
theorem dL_way_14 : decode cL_way 14 = .ok (.ireturn, 1) := by decide +kernel
theorem dL_step_0 : decode cL_step 0 = .ok (.aload_n 0, 1) := by decide +kernel
theorem dL_step_1 : decode cL_step 1 = .ok (.iload_n 1, 1) := by decide +kernel
theorem dL_step_2 : decode cL_step 2 = .ok (.iload_n 2, 1) := by decide +kernel
theorem dL_step_3 : decode cL_step 3 = .ok (.iload_n 3, 1) := by decide +kernel
theorem dL_step_4 : decode cL_step 4 = .ok (.invokevirtual 55, 3) := by decide +kernel
theorem dL_step_7 : decode cL_step 7 = .ok (.ireturn, 1) := by decide +kernel
theorem dL_step_8 : decode cL_step 8 = .ok (.astore 4, 2) := by decide +kernel
theorem dL_step_10 : decode cL_step 10 = .ok (.ldc 16, 2) := by decide +kernel
theorem dL_step_12 : decode cL_step 12 = .ok (.ireturn, 1) := by decide +kernel
theorem dL_step_13 : decode cL_step 13 = .ok (.astore 4, 2) := by decide +kernel
theorem dL_step_15 : decode cL_step 15 = .ok (.ldc 16, 2) := by decide +kernel
theorem dL_step_17 : decode cL_step 17 = .ok (.ireturn, 1) := by decide +kernel
theorem dL_row_0 : decode cL_row 0 = .ok (.aload_n 0, 1) := by decide +kernel
theorem dL_row_1 : decode cL_row 1 = .ok (.iload_n 1, 1) := by decide +kernel
theorem dL_row_2 : decode cL_row 2 = .ok (.iload_n 2, 1) := by decide +kernel
theorem dL_row_3 : decode cL_row 3 = .ok (.invokevirtual 59, 3) := by decide +kernel
theorem dL_row_6 : decode cL_row 6 = .ok (.ireturn, 1) := by decide +kernel
theorem dL_row_7 : decode cL_row 7 = .ok (.astore_n 3, 1) := by decide +kernel
theorem dL_row_8 : decode cL_row 8 = .ok (.ldc 16, 2) := by decide +kernel
theorem dL_row_10 : decode cL_row 10 = .ok (.ireturn, 1) := by decide +kernel
theorem dL_mostByRows_0 : decode cL_mostByRows 0 = .ok (.aload_n 0, 1) := by decide +kernel
theorem dL_mostByRows_1 : decode cL_mostByRows 1 = .ok (.iload_n 1, 1) := by decide +kernel
theorem dL_mostByRows_2 : decode cL_mostByRows 2 = .ok (.invokevirtual 62, 3) := by decide +kernel
theorem dL_mostByRows_5 : decode cL_mostByRows 5 = .ok (.ireturn, 1) := by decide +kernel
theorem dL_mostByRows_6 : decode cL_mostByRows 6 = .ok (.astore_n 2, 1) := by decide +kernel
theorem dL_mostByRows_7 : decode cL_mostByRows 7 = .ok (.ldc 16, 2) := by decide +kernel
theorem dL_mostByRows_9 : decode cL_mostByRows 9 = .ok (.ireturn, 1) := by decide +kernel
theorem dL_round_0 : decode cL_round 0 = .ok (.aload_n 0, 1) := by decide +kernel
theorem dL_round_1 : decode cL_round 1 = .ok (.iload_n 1, 1) := by decide +kernel
theorem dL_round_2 : decode cL_round 2 = .ok (.iload_n 2, 1) := by decide +kernel
theorem dL_round_3 : decode cL_round 3 = .ok (.invokevirtual 65, 3) := by decide +kernel
theorem dL_round_6 : decode cL_round 6 = .ok (.ireturn, 1) := by decide +kernel
theorem dL_round_7 : decode cL_round 7 = .ok (.astore_n 3, 1) := by decide +kernel
theorem dL_round_8 : decode cL_round 8 = .ok (.ldc 16, 2) := by decide +kernel
theorem dL_round_10 : decode cL_round 10 = .ok (.ireturn, 1) := by decide +kernel
theorem dL_siphon_0 : decode cL_siphon 0 = .ok (.aload_n 0, 1) := by decide +kernel
theorem dL_siphon_1 : decode cL_siphon 1 = .ok (.iload_n 1, 1) := by decide +kernel
theorem dL_siphon_2 : decode cL_siphon 2 = .ok (.invokevirtual 68, 3) := by decide +kernel
theorem dL_siphon_5 : decode cL_siphon 5 = .ok (.ireturn, 1) := by decide +kernel
theorem dL_siphon_6 : decode cL_siphon 6 = .ok (.astore_n 2, 1) := by decide +kernel
theorem dL_siphon_7 : decode cL_siphon 7 = .ok (.ldc 16, 2) := by decide +kernel
theorem dL_siphon_9 : decode cL_siphon 9 = .ok (.ireturn, 1) := by decide +kernel
theorem dL_trap_0 : decode cL_trap 0 = .ok (.aload_n 0, 1) := by decide +kernel
theorem dL_trap_1 : decode cL_trap 1 = .ok (.iload_n 1, 1) := by decide +kernel
theorem dL_trap_2 : decode cL_trap 2 = .ok (.invokevirtual 71, 3) := by decide +kernel
theorem dL_trap_5 : decode cL_trap 5 = .ok (.ireturn, 1) := by decide +kernel
theorem dL_trap_6 : decode cL_trap 6 = .ok (.astore_n 2, 1) := by decide +kernel
theorem dL_trap_7 : decode cL_trap 7 = .ok (.ldc 16, 2) := by decide +kernel
theorem dL_trap_9 : decode cL_trap 9 = .ok (.ireturn, 1) := by decide +kernel
theorem dL_log_0 : decode cL_log 0 = .ok (.aload_n 0, 1) := by decide +kernel
theorem dL_log_1 : decode cL_log 1 = .ok (.iload_n 1, 1) := by decide +kernel
theorem dL_log_2 : decode cL_log 2 = .ok (.invokevirtual 74, 3) := by decide +kernel
theorem dL_log_5 : decode cL_log 5 = .ok (.ireturn, 1) := by decide +kernel
theorem dL_log_6 : decode cL_log 6 = .ok (.astore_n 2, 1) := by decide +kernel
theorem dL_log_7 : decode cL_log 7 = .ok (.ldc 16, 2) := by decide +kernel
theorem dL_log_9 : decode cL_log 9 = .ok (.ireturn, 1) := by decide +kernel
theorem dL_log_10 : decode cL_log 10 = .ok (.astore_n 2, 1) := by decide +kernel
theorem dL_log_11 : decode cL_log 11 = .ok (.ldc 16, 2) := by decide +kernel
theorem dL_log_13 : decode cL_log 13 = .ok (.ireturn, 1) := by decide +kernel
theorem dL_act_0 : decode cL_act 0 = .ok (.iload_n 1, 1) := by decide +kernel
theorem dL_act_1 : decode cL_act 1 = .ok (.bipush 26, 2) := by decide +kernel
theorem dL_act_3 : decode cL_act 3 = .ok (.ishr, 1) := by decide +kernel
theorem dL_act_4 : decode cL_act 4 = .ok (.bipush 14, 2) := by decide +kernel
theorem dL_act_6 : decode cL_act 6 = .ok (.invokestatic 77, 3) := by decide +kernel
theorem dL_act_9 : decode cL_act 9 = .ok (.ifCond .ne 7, 3) := by decide +kernel
theorem dL_act_12 : decode cL_act 12 = .ok (.iconst 1, 1) := by decide +kernel
theorem dL_act_13 : decode cL_act 13 = .ok (.goto 4, 3) := by decide +kernel
theorem dL_act_16 : decode cL_act 16 = .ok (.iconst 0, 1) := by decide +kernel
theorem dL_act_17 : decode cL_act 17 = .ok (.istore_n 2, 1) := by decide +kernel
theorem dL_act_18 : decode cL_act 18 = .ok (.iload_n 2, 1) := by decide +kernel
theorem dL_act_19 : decode cL_act 19 = .ok (.ifCond .eq 16, 3) := by decide +kernel
theorem dL_act_22 : decode cL_act 22 = .ok (.iload_n 1, 1) := by decide +kernel
theorem dL_act_23 : decode cL_act 23 = .ok (.iconst 4, 1) := by decide +kernel
theorem dL_act_24 : decode cL_act 24 = .ok (.ishr, 1) := by decide +kernel
theorem dL_act_25 : decode cL_act 25 = .ok (.bipush 9, 2) := by decide +kernel
theorem dL_act_27 : decode cL_act 27 = .ok (.invokestatic 77, 3) := by decide +kernel
theorem dL_act_30 : decode cL_act 30 = .ok (.iconst 2, 1) := by decide +kernel
theorem dL_act_31 : decode cL_act 31 = .ok (.isub, 1) := by decide +kernel
theorem dL_act_32 : decode cL_act 32 = .ok (.goto 10, 3) := by decide +kernel
theorem dL_act_35 : decode cL_act 35 = .ok (.iload_n 1, 1) := by decide +kernel
theorem dL_act_36 : decode cL_act 36 = .ok (.iconst 4, 1) := by decide +kernel
theorem dL_act_37 : decode cL_act 37 = .ok (.ishr, 1) := by decide +kernel
theorem dL_act_38 : decode cL_act 38 = .ok (.iconst 3, 1) := by decide +kernel
theorem dL_act_39 : decode cL_act 39 = .ok (.invokestatic 77, 3) := by decide +kernel
theorem dL_act_42 : decode cL_act 42 = .ok (.istore_n 3, 1) := by decide +kernel
theorem dL_act_43 : decode cL_act 43 = .ok (.iload_n 2, 1) := by decide +kernel
theorem dL_act_44 : decode cL_act 44 = .ok (.ifCond .eq 17, 3) := by decide +kernel
theorem dL_act_47 : decode cL_act 47 = .ok (.iload_n 1, 1) := by decide +kernel
theorem dL_act_48 : decode cL_act 48 = .ok (.bipush 7, 2) := by decide +kernel
theorem dL_act_50 : decode cL_act 50 = .ok (.ishr, 1) := by decide +kernel
theorem dL_act_51 : decode cL_act 51 = .ok (.bipush 11, 2) := by decide +kernel
theorem dL_act_53 : decode cL_act 53 = .ok (.invokestatic 77, 3) := by decide +kernel
theorem dL_act_56 : decode cL_act 56 = .ok (.iconst 2, 1) := by decide +kernel
theorem dL_act_57 : decode cL_act 57 = .ok (.isub, 1) := by decide +kernel
theorem dL_act_58 : decode cL_act 58 = .ok (.goto 11, 3) := by decide +kernel
theorem dL_act_61 : decode cL_act 61 = .ok (.iload_n 1, 1) := by decide +kernel
theorem dL_act_62 : decode cL_act 62 = .ok (.bipush 7, 2) := by decide +kernel
theorem dL_act_64 : decode cL_act 64 = .ok (.ishr, 1) := by decide +kernel
theorem dL_act_65 : decode cL_act 65 = .ok (.iconst 3, 1) := by decide +kernel
theorem dL_act_66 : decode cL_act 66 = .ok (.invokestatic 77, 3) := by decide +kernel
theorem dL_act_69 : decode cL_act 69 = .ok (.istore 4, 2) := by decide +kernel
theorem dL_act_71 : decode cL_act 71 = .ok (.iload_n 2, 1) := by decide +kernel
theorem dL_act_72 : decode cL_act 72 = .ok (.ifCond .eq 10, 3) := by decide +kernel
theorem dL_act_75 : decode cL_act 75 = .ok (.iload_n 1, 1) := by decide +kernel
theorem dL_act_76 : decode cL_act 76 = .ok (.bipush 9, 2) := by decide +kernel
theorem dL_act_78 : decode cL_act 78 = .ok (.ishr, 1) := by decide +kernel
theorem dL_act_79 : decode cL_act 79 = .ok (.goto 11, 3) := by decide +kernel
theorem dL_act_82 : decode cL_act 82 = .ok (.iload_n 1, 1) := by decide +kernel
theorem dL_act_83 : decode cL_act 83 = .ok (.bipush 9, 2) := by decide +kernel
theorem dL_act_85 : decode cL_act 85 = .ok (.ishr, 1) := by decide +kernel
theorem dL_act_86 : decode cL_act 86 = .ok (.iconst 4, 1) := by decide +kernel
theorem dL_act_87 : decode cL_act 87 = .ok (.invokestatic 77, 3) := by decide +kernel
theorem dL_act_90 : decode cL_act 90 = .ok (.istore 5, 2) := by decide +kernel
theorem dL_act_92 : decode cL_act 92 = .ok (.iload_n 1, 1) := by decide +kernel
theorem dL_act_93 : decode cL_act 93 = .ok (.bipush 48, 2) := by decide +kernel
theorem dL_act_95 : decode cL_act 95 = .ok (.invokestatic 77, 3) := by decide +kernel
theorem dL_act_98 : decode cL_act 98 = .ok (.tableswitch 634 0 45 #[198, 205, 210, 210, 210, 210, 210, 210, 210, 210, 210, 210, 301, 320, 326, 333, 333, 333, 333, 333, 340, 340, 362, 386, 392, 399, 423, 455, 460, 483, 489, 494, 518, 531, 536, 558, 581, 594, 594, 594, 594, 601, 624, 624, 629, 629], 198) := by decide +kernel
theorem dL_act_296 : decode cL_act 296 = .ok (.aload_n 0, 1) := by decide +kernel
theorem dL_act_297 : decode cL_act 297 = .ok (.iload 5, 2) := by decide +kernel
theorem dL_act_299 : decode cL_act 299 = .ok (.invokestatic 82, 3) := by decide +kernel
theorem dL_act_302 : decode cL_act 302 = .ok (.ireturn, 1) := by decide +kernel
theorem dL_act_303 : decode cL_act 303 = .ok (.aload_n 0, 1) := by decide +kernel
theorem dL_act_304 : decode cL_act 304 = .ok (.invokestatic 85, 3) := by decide +kernel
theorem dL_act_307 : decode cL_act 307 = .ok (.ireturn, 1) := by decide +kernel
theorem dL_act_308 : decode cL_act 308 = .ok (.aload_n 0, 1) := by decide +kernel
theorem dL_act_309 : decode cL_act 309 = .ok (.iload 4, 2) := by decide +kernel
theorem dL_act_311 : decode cL_act 311 = .ok (.iload_n 3, 1) := by decide +kernel
theorem dL_act_312 : decode cL_act 312 = .ok (.iload_n 2, 1) := by decide +kernel
theorem dL_act_313 : decode cL_act 313 = .ok (.ifCond .eq 17, 3) := by decide +kernel
theorem dL_act_316 : decode cL_act 316 = .ok (.iload_n 1, 1) := by decide +kernel
theorem dL_act_317 : decode cL_act 317 = .ok (.bipush 13, 2) := by decide +kernel
theorem dL_act_319 : decode cL_act 319 = .ok (.ishr, 1) := by decide +kernel
theorem dL_act_320 : decode cL_act 320 = .ok (.bipush 8, 2) := by decide +kernel
theorem dL_act_322 : decode cL_act 322 = .ok (.invokestatic 77, 3) := by decide +kernel
theorem dL_act_325 : decode cL_act 325 = .ok (.iconst 1, 1) := by decide +kernel
theorem dL_act_326 : decode cL_act 326 = .ok (.isub, 1) := by decide +kernel
theorem dL_act_327 : decode cL_act 327 = .ok (.goto 48, 3) := by decide +kernel
theorem dL_act_330 : decode cL_act 330 = .ok (.iload_n 1, 1) := by decide +kernel
theorem dL_act_331 : decode cL_act 331 = .ok (.bipush 13, 2) := by decide +kernel
theorem dL_act_333 : decode cL_act 333 = .ok (.ishr, 1) := by decide +kernel
theorem dL_act_334 : decode cL_act 334 = .ok (.bipush 9, 2) := by decide +kernel
theorem dL_act_336 : decode cL_act 336 = .ok (.invokestatic 77, 3) := by decide +kernel
theorem dL_act_339 : decode cL_act 339 = .ok (.iconst 4, 1) := by decide +kernel
theorem dL_act_340 : decode cL_act 340 = .ok (.if_icmp .ge 7, 3) := by decide +kernel
theorem dL_act_343 : decode cL_act 343 = .ok (.iconst 0, 1) := by decide +kernel
theorem dL_act_344 : decode cL_act 344 = .ok (.goto 31, 3) := by decide +kernel
theorem dL_act_347 : decode cL_act 347 = .ok (.iload_n 1, 1) := by decide +kernel
theorem dL_act_348 : decode cL_act 348 = .ok (.bipush 13, 2) := by decide +kernel
theorem dL_act_350 : decode cL_act 350 = .ok (.ishr, 1) := by decide +kernel
theorem dL_act_351 : decode cL_act 351 = .ok (.bipush 9, 2) := by decide +kernel
theorem dL_act_353 : decode cL_act 353 = .ok (.invokestatic 77, 3) := by decide +kernel
theorem dL_act_356 : decode cL_act 356 = .ok (.bipush 7, 2) := by decide +kernel
theorem dL_act_358 : decode cL_act 358 = .ok (.if_icmp .ge 7, 3) := by decide +kernel
theorem dL_act_361 : decode cL_act 361 = .ok (.iconst 1, 1) := by decide +kernel
theorem dL_act_362 : decode cL_act 362 = .ok (.goto 13, 3) := by decide +kernel
theorem dL_act_365 : decode cL_act 365 = .ok (.iconst 2, 1) := by decide +kernel
theorem dL_act_366 : decode cL_act 366 = .ok (.iload_n 1, 1) := by decide +kernel
theorem dL_act_367 : decode cL_act 367 = .ok (.bipush 15, 2) := by decide +kernel
theorem dL_act_369 : decode cL_act 369 = .ok (.ishr, 1) := by decide +kernel
theorem dL_act_370 : decode cL_act 370 = .ok (.iconst 2, 1) := by decide +kernel
theorem dL_act_371 : decode cL_act 371 = .ok (.invokestatic 77, 3) := by decide +kernel
theorem dL_act_374 : decode cL_act 374 = .ok (.iadd, 1) := by decide +kernel
theorem dL_act_375 : decode cL_act 375 = .ok (.iload_n 2, 1) := by decide +kernel
theorem dL_act_376 : decode cL_act 376 = .ok (.ifCond .eq 8, 3) := by decide +kernel
theorem dL_act_379 : decode cL_act 379 = .ok (.iload 5, 2) := by decide +kernel
theorem dL_act_381 : decode cL_act 381 = .ok (.goto 14, 3) := by decide +kernel
theorem dL_act_384 : decode cL_act 384 = .ok (.iload_n 1, 1) := by decide +kernel
theorem dL_act_385 : decode cL_act 385 = .ok (.bipush 9, 2) := by decide +kernel
theorem dL_act_387 : decode cL_act 387 = .ok (.ishr, 1) := by decide +kernel
theorem dL_act_388 : decode cL_act 388 = .ok (.bipush 6, 2) := by decide +kernel
theorem dL_act_390 : decode cL_act 390 = .ok (.invokestatic 77, 3) := by decide +kernel
theorem dL_act_393 : decode cL_act 393 = .ok (.iconst 2, 1) := by decide +kernel
theorem dL_act_394 : decode cL_act 394 = .ok (.idiv, 1) := by decide +kernel
theorem dL_act_395 : decode cL_act 395 = .ok (.invokestatic 88, 3) := by decide +kernel
theorem dL_act_398 : decode cL_act 398 = .ok (.ireturn, 1) := by decide +kernel
theorem dL_act_399 : decode cL_act 399 = .ok (.aload_n 0, 1) := by decide +kernel
theorem dL_act_400 : decode cL_act 400 = .ok (.iload 4, 2) := by decide +kernel
theorem dL_act_402 : decode cL_act 402 = .ok (.iload_n 3, 1) := by decide +kernel
theorem dL_act_403 : decode cL_act 403 = .ok (.iconst 4, 1) := by decide +kernel
theorem dL_act_404 : decode cL_act 404 = .ok (.iload_n 1, 1) := by decide +kernel
theorem dL_act_405 : decode cL_act 405 = .ok (.bipush 9, 2) := by decide +kernel
theorem dL_act_407 : decode cL_act 407 = .ok (.ishr, 1) := by decide +kernel
theorem dL_act_408 : decode cL_act 408 = .ok (.iconst 5, 1) := by decide +kernel
theorem dL_act_409 : decode cL_act 409 = .ok (.invokestatic 77, 3) := by decide +kernel
theorem dL_act_412 : decode cL_act 412 = .ok (.iconst 4, 1) := by decide +kernel
theorem dL_act_413 : decode cL_act 413 = .ok (.idiv, 1) := by decide +kernel
theorem dL_act_414 : decode cL_act 414 = .ok (.invokestatic 88, 3) := by decide +kernel
theorem dL_act_417 : decode cL_act 417 = .ok (.ireturn, 1) := by decide +kernel
theorem dL_act_418 : decode cL_act 418 = .ok (.aload_n 0, 1) := by decide +kernel
theorem dL_act_419 : decode cL_act 419 = .ok (.iload_n 3, 1) := by decide +kernel
theorem dL_act_420 : decode cL_act 420 = .ok (.invokestatic 91, 3) := by decide +kernel
theorem dL_act_423 : decode cL_act 423 = .ok (.ireturn, 1) := by decide +kernel
theorem dL_act_424 : decode cL_act 424 = .ok (.aload_n 0, 1) := by decide +kernel
theorem dL_act_425 : decode cL_act 425 = .ok (.iload 4, 2) := by decide +kernel
theorem dL_act_427 : decode cL_act 427 = .ok (.invokestatic 93, 3) := by decide +kernel
theorem dL_act_430 : decode cL_act 430 = .ok (.ireturn, 1) := by decide +kernel
theorem dL_act_431 : decode cL_act 431 = .ok (.aload_n 0, 1) := by decide +kernel
theorem dL_act_432 : decode cL_act 432 = .ok (.iload 4, 2) := by decide +kernel
theorem dL_act_434 : decode cL_act 434 = .ok (.invokestatic 95, 3) := by decide +kernel
theorem dL_act_437 : decode cL_act 437 = .ok (.ireturn, 1) := by decide +kernel
theorem dL_act_438 : decode cL_act 438 = .ok (.aload_n 0, 1) := by decide +kernel
theorem dL_act_439 : decode cL_act 439 = .ok (.iload_n 2, 1) := by decide +kernel
theorem dL_act_440 : decode cL_act 440 = .ok (.ifCond .eq 8, 3) := by decide +kernel
theorem dL_act_443 : decode cL_act 443 = .ok (.iload 5, 2) := by decide +kernel
theorem dL_act_445 : decode cL_act 445 = .ok (.goto 11, 3) := by decide +kernel
theorem dL_act_448 : decode cL_act 448 = .ok (.iload_n 1, 1) := by decide +kernel
theorem dL_act_449 : decode cL_act 449 = .ok (.bipush 9, 2) := by decide +kernel
theorem dL_act_451 : decode cL_act 451 = .ok (.ishr, 1) := by decide +kernel
theorem dL_act_452 : decode cL_act 452 = .ok (.iconst 4, 1) := by decide +kernel
theorem dL_act_453 : decode cL_act 453 = .ok (.invokestatic 77, 3) := by decide +kernel
theorem dL_act_456 : decode cL_act 456 = .ok (.invokestatic 97, 3) := by decide +kernel
theorem dL_act_459 : decode cL_act 459 = .ok (.ireturn, 1) := by decide +kernel
theorem dL_act_460 : decode cL_act 460 = .ok (.aload_n 0, 1) := by decide +kernel
theorem dL_act_461 : decode cL_act 461 = .ok (.iload_n 2, 1) := by decide +kernel
theorem dL_act_462 : decode cL_act 462 = .ok (.ifCond .eq 8, 3) := by decide +kernel
theorem dL_act_465 : decode cL_act 465 = .ok (.iload 5, 2) := by decide +kernel
theorem dL_act_467 : decode cL_act 467 = .ok (.goto 12, 3) := by decide +kernel
theorem dL_act_470 : decode cL_act 470 = .ok (.iload_n 1, 1) := by decide +kernel
theorem dL_act_471 : decode cL_act 471 = .ok (.bipush 9, 2) := by decide +kernel
theorem dL_act_473 : decode cL_act 473 = .ok (.ishr, 1) := by decide +kernel
theorem dL_act_474 : decode cL_act 474 = .ok (.bipush 12, 2) := by decide +kernel
theorem dL_act_476 : decode cL_act 476 = .ok (.invokestatic 77, 3) := by decide +kernel
theorem dL_act_479 : decode cL_act 479 = .ok (.iload_n 3, 1) := by decide +kernel
theorem dL_act_480 : decode cL_act 480 = .ok (.invokestatic 99, 3) := by decide +kernel
theorem dL_act_483 : decode cL_act 483 = .ok (.ireturn, 1) := by decide +kernel
theorem dL_act_484 : decode cL_act 484 = .ok (.aload_n 0, 1) := by decide +kernel
theorem dL_act_485 : decode cL_act 485 = .ok (.iload_n 3, 1) := by decide +kernel
theorem dL_act_486 : decode cL_act 486 = .ok (.invokestatic 102, 3) := by decide +kernel
theorem dL_act_489 : decode cL_act 489 = .ok (.ireturn, 1) := by decide +kernel
theorem dL_act_490 : decode cL_act 490 = .ok (.aload_n 0, 1) := by decide +kernel
theorem dL_act_491 : decode cL_act 491 = .ok (.iload 4, 2) := by decide +kernel
theorem dL_act_493 : decode cL_act 493 = .ok (.invokestatic 104, 3) := by decide +kernel
theorem dL_act_496 : decode cL_act 496 = .ok (.ireturn, 1) := by decide +kernel
theorem dL_act_497 : decode cL_act 497 = .ok (.aload_n 0, 1) := by decide +kernel
theorem dL_act_498 : decode cL_act 498 = .ok (.iload_n 3, 1) := by decide +kernel
theorem dL_act_499 : decode cL_act 499 = .ok (.iload_n 2, 1) := by decide +kernel
theorem dL_act_500 : decode cL_act 500 = .ok (.ifCond .eq 8, 3) := by decide +kernel
theorem dL_act_503 : decode cL_act 503 = .ok (.iload 5, 2) := by decide +kernel
theorem dL_act_505 : decode cL_act 505 = .ok (.goto 12, 3) := by decide +kernel
theorem dL_act_508 : decode cL_act 508 = .ok (.iload_n 1, 1) := by decide +kernel
theorem dL_act_509 : decode cL_act 509 = .ok (.bipush 9, 2) := by decide +kernel
theorem dL_act_511 : decode cL_act 511 = .ok (.ishr, 1) := by decide +kernel
theorem dL_act_512 : decode cL_act 512 = .ok (.bipush 8, 2) := by decide +kernel
theorem dL_act_514 : decode cL_act 514 = .ok (.invokestatic 77, 3) := by decide +kernel
theorem dL_act_517 : decode cL_act 517 = .ok (.invokestatic 106, 3) := by decide +kernel
theorem dL_act_520 : decode cL_act 520 = .ok (.ireturn, 1) := by decide +kernel
theorem dL_act_521 : decode cL_act 521 = .ok (.aload_n 0, 1) := by decide +kernel
theorem dL_act_522 : decode cL_act 522 = .ok (.iload_n 3, 1) := by decide +kernel
theorem dL_act_523 : decode cL_act 523 = .ok (.iload_n 1, 1) := by decide +kernel
theorem dL_act_524 : decode cL_act 524 = .ok (.bipush 9, 2) := by decide +kernel
theorem dL_act_526 : decode cL_act 526 = .ok (.ishr, 1) := by decide +kernel
theorem dL_act_527 : decode cL_act 527 = .ok (.bipush 8, 2) := by decide +kernel
theorem dL_act_529 : decode cL_act 529 = .ok (.invokestatic 77, 3) := by decide +kernel
theorem dL_act_532 : decode cL_act 532 = .ok (.iload_n 2, 1) := by decide +kernel
theorem dL_act_533 : decode cL_act 533 = .ok (.ifCond .eq 8, 3) := by decide +kernel
theorem dL_act_536 : decode cL_act 536 = .ok (.iload 5, 2) := by decide +kernel
theorem dL_act_538 : decode cL_act 538 = .ok (.goto 11, 3) := by decide +kernel
theorem dL_act_541 : decode cL_act 541 = .ok (.iload_n 1, 1) := by decide +kernel
theorem dL_act_542 : decode cL_act 542 = .ok (.bipush 13, 2) := by decide +kernel
theorem dL_act_544 : decode cL_act 544 = .ok (.ishr, 1) := by decide +kernel
theorem dL_act_545 : decode cL_act 545 = .ok (.iconst 4, 1) := by decide +kernel
theorem dL_act_546 : decode cL_act 546 = .ok (.invokestatic 77, 3) := by decide +kernel
theorem dL_act_549 : decode cL_act 549 = .ok (.invokestatic 108, 3) := by decide +kernel
theorem dL_act_552 : decode cL_act 552 = .ok (.ireturn, 1) := by decide +kernel
theorem dL_act_553 : decode cL_act 553 = .ok (.aload_n 0, 1) := by decide +kernel
theorem dL_act_554 : decode cL_act 554 = .ok (.invokevirtual 111, 3) := by decide +kernel
theorem dL_act_557 : decode cL_act 557 = .ok (.ireturn, 1) := by decide +kernel
theorem dL_act_558 : decode cL_act 558 = .ok (.aload_n 0, 1) := by decide +kernel
theorem dL_act_559 : decode cL_act 559 = .ok (.iload_n 2, 1) := by decide +kernel
theorem dL_act_560 : decode cL_act 560 = .ok (.ifCond .eq 8, 3) := by decide +kernel
theorem dL_act_563 : decode cL_act 563 = .ok (.iload 5, 2) := by decide +kernel
theorem dL_act_565 : decode cL_act 565 = .ok (.goto 11, 3) := by decide +kernel
theorem dL_act_568 : decode cL_act 568 = .ok (.iload_n 1, 1) := by decide +kernel
theorem dL_act_569 : decode cL_act 569 = .ok (.bipush 9, 2) := by decide +kernel
theorem dL_act_571 : decode cL_act 571 = .ok (.ishr, 1) := by decide +kernel
theorem dL_act_572 : decode cL_act 572 = .ok (.iconst 3, 1) := by decide +kernel
theorem dL_act_573 : decode cL_act 573 = .ok (.invokestatic 77, 3) := by decide +kernel
theorem dL_act_576 : decode cL_act 576 = .ok (.iload_n 3, 1) := by decide +kernel
theorem dL_act_577 : decode cL_act 577 = .ok (.invokestatic 114, 3) := by decide +kernel
theorem dL_act_580 : decode cL_act 580 = .ok (.ireturn, 1) := by decide +kernel
theorem dL_act_581 : decode cL_act 581 = .ok (.aload_n 0, 1) := by decide +kernel
theorem dL_act_582 : decode cL_act 582 = .ok (.iload_n 3, 1) := by decide +kernel
theorem dL_act_583 : decode cL_act 583 = .ok (.invokestatic 116, 3) := by decide +kernel
theorem dL_act_586 : decode cL_act 586 = .ok (.ireturn, 1) := by decide +kernel
theorem dL_act_587 : decode cL_act 587 = .ok (.aload_n 0, 1) := by decide +kernel
theorem dL_act_588 : decode cL_act 588 = .ok (.invokevirtual 118, 3) := by decide +kernel
theorem dL_act_591 : decode cL_act 591 = .ok (.ireturn, 1) := by decide +kernel
theorem dL_act_592 : decode cL_act 592 = .ok (.aload_n 0, 1) := by decide +kernel
theorem dL_act_593 : decode cL_act 593 = .ok (.iload_n 2, 1) := by decide +kernel
theorem dL_act_594 : decode cL_act 594 = .ok (.ifCond .eq 8, 3) := by decide +kernel
theorem dL_act_597 : decode cL_act 597 = .ok (.iload 5, 2) := by decide +kernel
theorem dL_act_599 : decode cL_act 599 = .ok (.goto 11, 3) := by decide +kernel
theorem dL_act_602 : decode cL_act 602 = .ok (.iload_n 1, 1) := by decide +kernel
theorem dL_act_603 : decode cL_act 603 = .ok (.bipush 9, 2) := by decide +kernel
theorem dL_act_605 : decode cL_act 605 = .ok (.ishr, 1) := by decide +kernel
theorem dL_act_606 : decode cL_act 606 = .ok (.iconst 2, 1) := by decide +kernel
theorem dL_act_607 : decode cL_act 607 = .ok (.invokestatic 77, 3) := by decide +kernel
theorem dL_act_610 : decode cL_act 610 = .ok (.iload 4, 2) := by decide +kernel
theorem dL_act_612 : decode cL_act 612 = .ok (.invokestatic 121, 3) := by decide +kernel
theorem dL_act_615 : decode cL_act 615 = .ok (.ireturn, 1) := by decide +kernel
theorem dL_act_616 : decode cL_act 616 = .ok (.aload_n 0, 1) := by decide +kernel
theorem dL_act_617 : decode cL_act 617 = .ok (.invokevirtual 123, 3) := by decide +kernel
theorem dL_act_620 : decode cL_act 620 = .ok (.ifCond .eq 7, 3) := by decide +kernel
theorem dL_act_623 : decode cL_act 623 = .ok (.iconst 1, 1) := by decide +kernel
theorem dL_act_624 : decode cL_act 624 = .ok (.goto 4, 3) := by decide +kernel
theorem dL_act_627 : decode cL_act 627 = .ok (.iconst 0, 1) := by decide +kernel
theorem dL_act_628 : decode cL_act 628 = .ok (.ireturn, 1) := by decide +kernel
theorem dL_act_629 : decode cL_act 629 = .ok (.aload_n 0, 1) := by decide +kernel
theorem dL_act_630 : decode cL_act 630 = .ok (.invokevirtual 127, 3) := by decide +kernel
theorem dL_act_633 : decode cL_act 633 = .ok (.ireturn, 1) := by decide +kernel
theorem dL_act_634 : decode cL_act 634 = .ok (.aload_n 0, 1) := by decide +kernel
theorem dL_act_635 : decode cL_act 635 = .ok (.iload_n 2, 1) := by decide +kernel
theorem dL_act_636 : decode cL_act 636 = .ok (.ifCond .eq 8, 3) := by decide +kernel
theorem dL_act_639 : decode cL_act 639 = .ok (.iload 5, 2) := by decide +kernel
theorem dL_act_641 : decode cL_act 641 = .ok (.goto 11, 3) := by decide +kernel
theorem dL_act_644 : decode cL_act 644 = .ok (.iload_n 1, 1) := by decide +kernel
theorem dL_act_645 : decode cL_act 645 = .ok (.bipush 9, 2) := by decide +kernel
theorem dL_act_647 : decode cL_act 647 = .ok (.ishr, 1) := by decide +kernel
theorem dL_act_648 : decode cL_act 648 = .ok (.iconst 2, 1) := by decide +kernel
theorem dL_act_649 : decode cL_act 649 = .ok (.invokestatic 77, 3) := by decide +kernel
theorem dL_act_652 : decode cL_act 652 = .ok (.invokestatic 130, 3) := by decide +kernel
theorem dL_act_655 : decode cL_act 655 = .ok (.ireturn, 1) := by decide +kernel
theorem dL_act_656 : decode cL_act 656 = .ok (.aload_n 0, 1) := by decide +kernel
theorem dL_act_657 : decode cL_act 657 = .ok (.iload_n 2, 1) := by decide +kernel
theorem dL_act_658 : decode cL_act 658 = .ok (.ifCond .eq 8, 3) := by decide +kernel
theorem dL_act_661 : decode cL_act 661 = .ok (.iload 5, 2) := by decide +kernel
theorem dL_act_663 : decode cL_act 663 = .ok (.goto 12, 3) := by decide +kernel
theorem dL_act_666 : decode cL_act 666 = .ok (.iload_n 1, 1) := by decide +kernel
theorem dL_act_667 : decode cL_act 667 = .ok (.bipush 9, 2) := by decide +kernel
theorem dL_act_669 : decode cL_act 669 = .ok (.ishr, 1) := by decide +kernel
theorem dL_act_670 : decode cL_act 670 = .ok (.bipush 8, 2) := by decide +kernel
theorem dL_act_672 : decode cL_act 672 = .ok (.invokestatic 77, 3) := by decide +kernel
theorem dL_act_675 : decode cL_act 675 = .ok (.invokestatic 132, 3) := by decide +kernel
theorem dL_act_678 : decode cL_act 678 = .ok (.ireturn, 1) := by decide +kernel
theorem dL_act_679 : decode cL_act 679 = .ok (.aload_n 0, 1) := by decide +kernel
theorem dL_act_680 : decode cL_act 680 = .ok (.invokevirtual 134, 3) := by decide +kernel
theorem dL_act_683 : decode cL_act 683 = .ok (.ifCond .eq 7, 3) := by decide +kernel
theorem dL_act_686 : decode cL_act 686 = .ok (.iconst 1, 1) := by decide +kernel
theorem dL_act_687 : decode cL_act 687 = .ok (.goto 4, 3) := by decide +kernel
theorem dL_act_690 : decode cL_act 690 = .ok (.iconst 0, 1) := by decide +kernel
theorem dL_act_691 : decode cL_act 691 = .ok (.ireturn, 1) := by decide +kernel
theorem dL_act_692 : decode cL_act 692 = .ok (.aload_n 0, 1) := by decide +kernel
theorem dL_act_693 : decode cL_act 693 = .ok (.iload 4, 2) := by decide +kernel
theorem dL_act_695 : decode cL_act 695 = .ok (.invokestatic 137, 3) := by decide +kernel
theorem dL_act_698 : decode cL_act 698 = .ok (.ireturn, 1) := by decide +kernel
theorem dL_act_699 : decode cL_act 699 = .ok (.iload_n 1, 1) := by decide +kernel
theorem dL_act_700 : decode cL_act 700 = .ok (.bipush 9, 2) := by decide +kernel
theorem dL_act_702 : decode cL_act 702 = .ok (.ishr, 1) := by decide +kernel
theorem dL_act_703 : decode cL_act 703 = .ok (.iconst 4, 1) := by decide +kernel
theorem dL_act_704 : decode cL_act 704 = .ok (.invokestatic 77, 3) := by decide +kernel
theorem dL_act_707 : decode cL_act 707 = .ok (.ifCond .ne 10, 3) := by decide +kernel
theorem dL_act_710 : decode cL_act 710 = .ok (.aload_n 0, 1) := by decide +kernel
theorem dL_act_711 : decode cL_act 711 = .ok (.invokevirtual 139, 3) := by decide +kernel
theorem dL_act_714 : decode cL_act 714 = .ok (.goto 7, 3) := by decide +kernel
theorem dL_act_717 : decode cL_act 717 = .ok (.aload_n 0, 1) := by decide +kernel
theorem dL_act_718 : decode cL_act 718 = .ok (.invokevirtual 142, 3) := by decide +kernel
theorem dL_act_721 : decode cL_act 721 = .ok (.ireturn, 1) := by decide +kernel
theorem dL_act_722 : decode cL_act 722 = .ok (.aload_n 0, 1) := by decide +kernel
theorem dL_act_723 : decode cL_act 723 = .ok (.invokevirtual 142, 3) := by decide +kernel
theorem dL_act_726 : decode cL_act 726 = .ok (.ireturn, 1) := by decide +kernel
theorem dL_act_727 : decode cL_act 727 = .ok (.aload_n 0, 1) := by decide +kernel
theorem dL_act_728 : decode cL_act 728 = .ok (.invokevirtual 145, 3) := by decide +kernel
theorem dL_act_731 : decode cL_act 731 = .ok (.ireturn, 1) := by decide +kernel
theorem dL_act_732 : decode cL_act 732 = .ok (.aload_n 0, 1) := by decide +kernel
theorem dL_act_733 : decode cL_act 733 = .ok (.iload_n 1, 1) := by decide +kernel
theorem dL_act_734 : decode cL_act 734 = .ok (.bipush 9, 2) := by decide +kernel
theorem dL_act_736 : decode cL_act 736 = .ok (.ishr, 1) := by decide +kernel
theorem dL_act_737 : decode cL_act 737 = .ok (.iconst 4, 1) := by decide +kernel
theorem dL_act_738 : decode cL_act 738 = .ok (.invokestatic 77, 3) := by decide +kernel
theorem dL_act_741 : decode cL_act 741 = .ok (.invokestatic 95, 3) := by decide +kernel
theorem dL_act_744 : decode cL_act 744 = .ok (.ireturn, 1) := by decide +kernel
theorem dL_areAlike_0 : decode cL_areAlike 0 = .ok (.aload_n 0, 1) := by decide +kernel
theorem dL_areAlike_1 : decode cL_areAlike 1 = .ok (.invokevirtual 142, 3) := by decide +kernel
theorem dL_areAlike_4 : decode cL_areAlike 4 = .ok (.aload_n 1, 1) := by decide +kernel
theorem dL_areAlike_5 : decode cL_areAlike 5 = .ok (.invokevirtual 142, 3) := by decide +kernel
theorem dL_areAlike_8 : decode cL_areAlike 8 = .ok (.if_icmp .ne 29, 3) := by decide +kernel
theorem dL_areAlike_11 : decode cL_areAlike 11 = .ok (.aload_n 0, 1) := by decide +kernel
theorem dL_areAlike_12 : decode cL_areAlike 12 = .ok (.invokevirtual 134, 3) := by decide +kernel
theorem dL_areAlike_15 : decode cL_areAlike 15 = .ok (.aload_n 1, 1) := by decide +kernel
theorem dL_areAlike_16 : decode cL_areAlike 16 = .ok (.invokevirtual 134, 3) := by decide +kernel
theorem dL_areAlike_19 : decode cL_areAlike 19 = .ok (.if_icmp .ne 18, 3) := by decide +kernel
theorem dL_areAlike_22 : decode cL_areAlike 22 = .ok (.aload_n 0, 1) := by decide +kernel
theorem dL_areAlike_23 : decode cL_areAlike 23 = .ok (.invokevirtual 127, 3) := by decide +kernel
theorem dL_areAlike_26 : decode cL_areAlike 26 = .ok (.aload_n 1, 1) := by decide +kernel
theorem dL_areAlike_27 : decode cL_areAlike 27 = .ok (.invokevirtual 127, 3) := by decide +kernel
theorem dL_areAlike_30 : decode cL_areAlike 30 = .ok (.if_icmp .ne 7, 3) := by decide +kernel
theorem dL_areAlike_33 : decode cL_areAlike 33 = .ok (.iconst 1, 1) := by decide +kernel
theorem dL_areAlike_34 : decode cL_areAlike 34 = .ok (.goto 4, 3) := by decide +kernel
theorem dL_areAlike_37 : decode cL_areAlike 37 = .ok (.iconst 0, 1) := by decide +kernel
theorem dL_areAlike_38 : decode cL_areAlike 38 = .ok (.istore_n 3, 1) := by decide +kernel
theorem dL_areAlike_39 : decode cL_areAlike 39 = .ok (.iconst 0, 1) := by decide +kernel
theorem dL_areAlike_40 : decode cL_areAlike 40 = .ok (.istore 4, 2) := by decide +kernel
theorem dL_areAlike_42 : decode cL_areAlike 42 = .ok (.iload 4, 2) := by decide +kernel
theorem dL_areAlike_44 : decode cL_areAlike 44 = .ok (.bipush 6, 2) := by decide +kernel
theorem dL_areAlike_46 : decode cL_areAlike 46 = .ok (.if_icmp .ge 93, 3) := by decide +kernel
theorem dL_areAlike_49 : decode cL_areAlike 49 = .ok (.iload_n 3, 1) := by decide +kernel
theorem dL_areAlike_50 : decode cL_areAlike 50 = .ok (.ifCond .eq 89, 3) := by decide +kernel
theorem dL_areAlike_53 : decode cL_areAlike 53 = .ok (.aload_n 0, 1) := by decide +kernel
theorem dL_areAlike_54 : decode cL_areAlike 54 = .ok (.iload 4, 2) := by decide +kernel
theorem dL_areAlike_56 : decode cL_areAlike 56 = .ok (.invokestatic 91, 3) := by decide +kernel
theorem dL_areAlike_59 : decode cL_areAlike 59 = .ok (.aload_n 1, 1) := by decide +kernel
theorem dL_areAlike_60 : decode cL_areAlike 60 = .ok (.iload 4, 2) := by decide +kernel
theorem dL_areAlike_62 : decode cL_areAlike 62 = .ok (.invokestatic 91, 3) := by decide +kernel
theorem dL_areAlike_65 : decode cL_areAlike 65 = .ok (.if_icmp .ne 66, 3) := by decide +kernel
theorem dL_areAlike_68 : decode cL_areAlike 68 = .ok (.aload_n 0, 1) := by decide +kernel
theorem dL_areAlike_69 : decode cL_areAlike 69 = .ok (.iload 4, 2) := by decide +kernel
theorem dL_areAlike_71 : decode cL_areAlike 71 = .ok (.invokestatic 93, 3) := by decide +kernel
theorem dL_areAlike_74 : decode cL_areAlike 74 = .ok (.aload_n 1, 1) := by decide +kernel
theorem dL_areAlike_75 : decode cL_areAlike 75 = .ok (.iload 4, 2) := by decide +kernel
theorem dL_areAlike_77 : decode cL_areAlike 77 = .ok (.invokestatic 93, 3) := by decide +kernel
theorem dL_areAlike_80 : decode cL_areAlike 80 = .ok (.if_icmp .ne 51, 3) := by decide +kernel
theorem dL_areAlike_83 : decode cL_areAlike 83 = .ok (.aload_n 0, 1) := by decide +kernel
theorem dL_areAlike_84 : decode cL_areAlike 84 = .ok (.iload_n 2, 1) := by decide +kernel
theorem dL_areAlike_85 : decode cL_areAlike 85 = .ok (.iload 4, 2) := by decide +kernel
theorem dL_areAlike_87 : decode cL_areAlike 87 = .ok (.iadd, 1) := by decide +kernel
theorem dL_areAlike_88 : decode cL_areAlike 88 = .ok (.bipush 16, 2) := by decide +kernel
theorem dL_areAlike_90 : decode cL_areAlike 90 = .ok (.invokestatic 77, 3) := by decide +kernel
theorem dL_areAlike_93 : decode cL_areAlike 93 = .ok (.invokestatic 132, 3) := by decide +kernel
theorem dL_areAlike_96 : decode cL_areAlike 96 = .ok (.aload_n 1, 1) := by decide +kernel
theorem dL_areAlike_97 : decode cL_areAlike 97 = .ok (.iload_n 2, 1) := by decide +kernel
theorem dL_areAlike_98 : decode cL_areAlike 98 = .ok (.iload 4, 2) := by decide +kernel
theorem dL_areAlike_100 : decode cL_areAlike 100 = .ok (.iadd, 1) := by decide +kernel
theorem dL_areAlike_101 : decode cL_areAlike 101 = .ok (.bipush 16, 2) := by decide +kernel
theorem dL_areAlike_103 : decode cL_areAlike 103 = .ok (.invokestatic 77, 3) := by decide +kernel
theorem dL_areAlike_106 : decode cL_areAlike 106 = .ok (.invokestatic 132, 3) := by decide +kernel
theorem dL_areAlike_109 : decode cL_areAlike 109 = .ok (.if_icmp .ne 22, 3) := by decide +kernel
theorem dL_areAlike_112 : decode cL_areAlike 112 = .ok (.aload_n 0, 1) := by decide +kernel
theorem dL_areAlike_113 : decode cL_areAlike 113 = .ok (.iload 4, 2) := by decide +kernel
theorem dL_areAlike_115 : decode cL_areAlike 115 = .ok (.invokestatic 130, 3) := by decide +kernel
theorem dL_areAlike_118 : decode cL_areAlike 118 = .ok (.aload_n 1, 1) := by decide +kernel
theorem dL_areAlike_119 : decode cL_areAlike 119 = .ok (.iload 4, 2) := by decide +kernel
theorem dL_areAlike_121 : decode cL_areAlike 121 = .ok (.invokestatic 130, 3) := by decide +kernel
theorem dL_areAlike_124 : decode cL_areAlike 124 = .ok (.if_icmp .ne 7, 3) := by decide +kernel
theorem dL_areAlike_127 : decode cL_areAlike 127 = .ok (.iconst 1, 1) := by decide +kernel
theorem dL_areAlike_128 : decode cL_areAlike 128 = .ok (.goto 4, 3) := by decide +kernel
theorem dL_areAlike_131 : decode cL_areAlike 131 = .ok (.iconst 0, 1) := by decide +kernel
theorem dL_areAlike_132 : decode cL_areAlike 132 = .ok (.istore_n 3, 1) := by decide +kernel
theorem dL_areAlike_133 : decode cL_areAlike 133 = .ok (.iinc 4 1, 3) := by decide +kernel
theorem dL_areAlike_136 : decode cL_areAlike 136 = .ok (.goto (-94), 3) := by decide +kernel
theorem dL_areAlike_139 : decode cL_areAlike 139 = .ok (.iload_n 3, 1) := by decide +kernel
theorem dL_areAlike_140 : decode cL_areAlike 140 = .ok (.ifCond .eq 39, 3) := by decide +kernel
theorem dL_areAlike_143 : decode cL_areAlike 143 = .ok (.aload_n 0, 1) := by decide +kernel
theorem dL_areAlike_144 : decode cL_areAlike 144 = .ok (.iload_n 2, 1) := by decide +kernel
theorem dL_areAlike_145 : decode cL_areAlike 145 = .ok (.iconst 4, 1) := by decide +kernel
theorem dL_areAlike_146 : decode cL_areAlike 146 = .ok (.invokestatic 77, 3) := by decide +kernel
theorem dL_areAlike_149 : decode cL_areAlike 149 = .ok (.invokevirtual 39, 3) := by decide +kernel
theorem dL_areAlike_152 : decode cL_areAlike 152 = .ok (.aload_n 1, 1) := by decide +kernel
theorem dL_areAlike_153 : decode cL_areAlike 153 = .ok (.iload_n 2, 1) := by decide +kernel
theorem dL_areAlike_154 : decode cL_areAlike 154 = .ok (.iconst 4, 1) := by decide +kernel
theorem dL_areAlike_155 : decode cL_areAlike 155 = .ok (.invokestatic 77, 3) := by decide +kernel
theorem dL_areAlike_158 : decode cL_areAlike 158 = .ok (.invokevirtual 39, 3) := by decide +kernel
theorem dL_areAlike_161 : decode cL_areAlike 161 = .ok (.if_icmp .ne 18, 3) := by decide +kernel
theorem dL_areAlike_164 : decode cL_areAlike 164 = .ok (.aload_n 0, 1) := by decide +kernel
theorem dL_areAlike_165 : decode cL_areAlike 165 = .ok (.invokevirtual 145, 3) := by decide +kernel
theorem dL_areAlike_168 : decode cL_areAlike 168 = .ok (.aload_n 1, 1) := by decide +kernel
theorem dL_areAlike_169 : decode cL_areAlike 169 = .ok (.invokevirtual 145, 3) := by decide +kernel
theorem dL_areAlike_172 : decode cL_areAlike 172 = .ok (.if_icmp .ne 7, 3) := by decide +kernel
theorem dL_areAlike_175 : decode cL_areAlike 175 = .ok (.iconst 1, 1) := by decide +kernel
theorem dL_areAlike_176 : decode cL_areAlike 176 = .ok (.goto 4, 3) := by decide +kernel
theorem dL_areAlike_179 : decode cL_areAlike 179 = .ok (.iconst 0, 1) := by decide +kernel
theorem dL_areAlike_180 : decode cL_areAlike 180 = .ok (.ireturn, 1) := by decide +kernel
theorem dL_isWaySo_0 : decode cL_isWaySo 0 = .ok (.aload_n 0, 1) := by decide +kernel
theorem dL_isWaySo_1 : decode cL_isWaySo 1 = .ok (.iload_n 1, 1) := by decide +kernel
theorem dL_isWaySo_2 : decode cL_isWaySo 2 = .ok (.iload_n 2, 1) := by decide +kernel
theorem dL_isWaySo_3 : decode cL_isWaySo 3 = .ok (.invokestatic 106, 3) := by decide +kernel
theorem dL_isWaySo_6 : decode cL_isWaySo 6 = .ok (.istore_n 3, 1) := by decide +kernel
theorem dL_isWaySo_7 : decode cL_isWaySo 7 = .ok (.aload_n 0, 1) := by decide +kernel
theorem dL_isWaySo_8 : decode cL_isWaySo 8 = .ok (.iconst 0, 1) := by decide +kernel
theorem dL_isWaySo_9 : decode cL_isWaySo 9 = .ok (.invokevirtual 39, 3) := by decide +kernel
theorem dL_isWaySo_12 : decode cL_isWaySo 12 = .ok (.istore 4, 2) := by decide +kernel
theorem dL_isWaySo_14 : decode cL_isWaySo 14 = .ok (.iload_n 3, 1) := by decide +kernel
theorem dL_isWaySo_15 : decode cL_isWaySo 15 = .ok (.ifCond .ge 29, 3) := by decide +kernel
theorem dL_isWaySo_18 : decode cL_isWaySo 18 = .ok (.iload_n 3, 1) := by decide +kernel
theorem dL_isWaySo_19 : decode cL_isWaySo 19 = .ok (.ldc 16, 2) := by decide +kernel
theorem dL_isWaySo_21 : decode cL_isWaySo 21 = .ok (.if_icmp .eq 17, 3) := by decide +kernel
theorem dL_isWaySo_24 : decode cL_isWaySo 24 = .ok (.iload 4, 2) := by decide +kernel
theorem dL_isWaySo_26 : decode cL_isWaySo 26 = .ok (.ifCond .lt 12, 3) := by decide +kernel
theorem dL_isWaySo_29 : decode cL_isWaySo 29 = .ok (.aload_n 0, 1) := by decide +kernel
theorem dL_isWaySo_30 : decode cL_isWaySo 30 = .ok (.iload_n 1, 1) := by decide +kernel
theorem dL_isWaySo_31 : decode cL_isWaySo 31 = .ok (.invokevirtual 46, 3) := by decide +kernel
theorem dL_isWaySo_34 : decode cL_isWaySo 34 = .ok (.iload_n 2, 1) := by decide +kernel
theorem dL_isWaySo_35 : decode cL_isWaySo 35 = .ok (.if_icmp .ge 7, 3) := by decide +kernel
theorem dL_isWaySo_38 : decode cL_isWaySo 38 = .ok (.iconst 1, 1) := by decide +kernel
theorem dL_isWaySo_39 : decode cL_isWaySo 39 = .ok (.goto 4, 3) := by decide +kernel
theorem dL_isWaySo_42 : decode cL_isWaySo 42 = .ok (.iconst 0, 1) := by decide +kernel
theorem dL_isWaySo_43 : decode cL_isWaySo 43 = .ok (.ireturn, 1) := by decide +kernel
theorem dL_isWaySo_44 : decode cL_isWaySo 44 = .ok (.aload_n 0, 1) := by decide +kernel
theorem dL_isWaySo_45 : decode cL_isWaySo 45 = .ok (.iload_n 1, 1) := by decide +kernel
theorem dL_isWaySo_46 : decode cL_isWaySo 46 = .ok (.iload_n 2, 1) := by decide +kernel
theorem dL_isWaySo_47 : decode cL_isWaySo 47 = .ok (.iload_n 3, 1) := by decide +kernel
theorem dL_isWaySo_48 : decode cL_isWaySo 48 = .ok (.invokestatic 108, 3) := by decide +kernel
theorem dL_isWaySo_51 : decode cL_isWaySo 51 = .ok (.iconst (-1), 1) := by decide +kernel
theorem dL_isWaySo_52 : decode cL_isWaySo 52 = .ok (.if_icmp .ne 42, 3) := by decide +kernel
theorem dL_isWaySo_55 : decode cL_isWaySo 55 = .ok (.aload_n 0, 1) := by decide +kernel
theorem dL_isWaySo_56 : decode cL_isWaySo 56 = .ok (.iload_n 1, 1) := by decide +kernel
theorem dL_isWaySo_57 : decode cL_isWaySo 57 = .ok (.invokevirtual 46, 3) := by decide +kernel
theorem dL_isWaySo_60 : decode cL_isWaySo 60 = .ok (.iload_n 2, 1) := by decide +kernel
theorem dL_isWaySo_61 : decode cL_isWaySo 61 = .ok (.if_icmp .lt 33, 3) := by decide +kernel
theorem dL_isWaySo_64 : decode cL_isWaySo 64 = .ok (.iload_n 3, 1) := by decide +kernel
theorem dL_isWaySo_65 : decode cL_isWaySo 65 = .ok (.ifCond .le 7, 3) := by decide +kernel
theorem dL_isWaySo_68 : decode cL_isWaySo 68 = .ok (.iconst 1, 1) := by decide +kernel
theorem dL_isWaySo_69 : decode cL_isWaySo 69 = .ok (.goto 4, 3) := by decide +kernel
theorem dL_isWaySo_72 : decode cL_isWaySo 72 = .ok (.iconst 0, 1) := by decide +kernel
theorem dL_isWaySo_73 : decode cL_isWaySo 73 = .ok (.aload_n 0, 1) := by decide +kernel
theorem dL_isWaySo_74 : decode cL_isWaySo 74 = .ok (.iload_n 1, 1) := by decide +kernel
theorem dL_isWaySo_75 : decode cL_isWaySo 75 = .ok (.invokevirtual 29, 3) := by decide +kernel
theorem dL_isWaySo_78 : decode cL_isWaySo 78 = .ok (.iload_n 2, 1) := by decide +kernel
theorem dL_isWaySo_79 : decode cL_isWaySo 79 = .ok (.if_icmp .ge 7, 3) := by decide +kernel
theorem dL_isWaySo_82 : decode cL_isWaySo 82 = .ok (.iconst 1, 1) := by decide +kernel
theorem dL_isWaySo_83 : decode cL_isWaySo 83 = .ok (.goto 4, 3) := by decide +kernel
theorem dL_isWaySo_86 : decode cL_isWaySo 86 = .ok (.iconst 0, 1) := by decide +kernel
theorem dL_isWaySo_87 : decode cL_isWaySo 87 = .ok (.if_icmp .ne 7, 3) := by decide +kernel
theorem dL_isWaySo_90 : decode cL_isWaySo 90 = .ok (.iconst 1, 1) := by decide +kernel
theorem dL_isWaySo_91 : decode cL_isWaySo 91 = .ok (.goto 4, 3) := by decide +kernel
theorem dL_isWaySo_94 : decode cL_isWaySo 94 = .ok (.iconst 0, 1) := by decide +kernel
theorem dL_isWaySo_95 : decode cL_isWaySo 95 = .ok (.istore 5, 2) := by decide +kernel
theorem dL_isWaySo_97 : decode cL_isWaySo 97 = .ok (.iconst 0, 1) := by decide +kernel
theorem dL_isWaySo_98 : decode cL_isWaySo 98 = .ok (.istore 6, 2) := by decide +kernel
theorem dL_isWaySo_100 : decode cL_isWaySo 100 = .ok (.iload 6, 2) := by decide +kernel
theorem dL_isWaySo_102 : decode cL_isWaySo 102 = .ok (.bipush 8, 2) := by decide +kernel
theorem dL_isWaySo_104 : decode cL_isWaySo 104 = .ok (.if_icmp .ge 113, 3) := by decide +kernel
theorem dL_isWaySo_107 : decode cL_isWaySo 107 = .ok (.iload 5, 2) := by decide +kernel
theorem dL_isWaySo_109 : decode cL_isWaySo 109 = .ok (.ifCond .eq 108, 3) := by decide +kernel
theorem dL_isWaySo_112 : decode cL_isWaySo 112 = .ok (.iload_n 3, 1) := by decide +kernel
theorem dL_isWaySo_113 : decode cL_isWaySo 113 = .ok (.ifCond .le 13, 3) := by decide +kernel
theorem dL_isWaySo_116 : decode cL_isWaySo 116 = .ok (.aload_n 0, 1) := by decide +kernel
theorem dL_isWaySo_117 : decode cL_isWaySo 117 = .ok (.iload_n 1, 1) := by decide +kernel
theorem dL_isWaySo_118 : decode cL_isWaySo 118 = .ok (.iload_n 2, 1) := by decide +kernel
theorem dL_isWaySo_119 : decode cL_isWaySo 119 = .ok (.iconst 0, 1) := by decide +kernel
theorem dL_isWaySo_120 : decode cL_isWaySo 120 = .ok (.invokestatic 108, 3) := by decide +kernel
theorem dL_isWaySo_123 : decode cL_isWaySo 123 = .ok (.goto 4, 3) := by decide +kernel
theorem dL_isWaySo_126 : decode cL_isWaySo 126 = .ok (.iconst (-1), 1) := by decide +kernel
theorem dL_isWaySo_127 : decode cL_isWaySo 127 = .ok (.istore 7, 2) := by decide +kernel
theorem dL_isWaySo_129 : decode cL_isWaySo 129 = .ok (.iload 7, 2) := by decide +kernel
theorem dL_isWaySo_131 : decode cL_isWaySo 131 = .ok (.ifCond .ge 7, 3) := by decide +kernel
theorem dL_isWaySo_134 : decode cL_isWaySo 134 = .ok (.iload_n 3, 1) := by decide +kernel
theorem dL_isWaySo_135 : decode cL_isWaySo 135 = .ok (.ifCond .le 18, 3) := by decide +kernel
theorem dL_isWaySo_138 : decode cL_isWaySo 138 = .ok (.iload 7, 2) := by decide +kernel
theorem dL_isWaySo_140 : decode cL_isWaySo 140 = .ok (.ifCond .lt 17, 3) := by decide +kernel
theorem dL_isWaySo_143 : decode cL_isWaySo 143 = .ok (.aload_n 0, 1) := by decide +kernel
theorem dL_isWaySo_144 : decode cL_isWaySo 144 = .ok (.iload 7, 2) := by decide +kernel
theorem dL_isWaySo_146 : decode cL_isWaySo 146 = .ok (.invokestatic 93, 3) := by decide +kernel
theorem dL_isWaySo_149 : decode cL_isWaySo 149 = .ok (.iconst 1, 1) := by decide +kernel
theorem dL_isWaySo_150 : decode cL_isWaySo 150 = .ok (.if_icmp .ne 7, 3) := by decide +kernel
theorem dL_isWaySo_153 : decode cL_isWaySo 153 = .ok (.iconst 1, 1) := by decide +kernel
theorem dL_isWaySo_154 : decode cL_isWaySo 154 = .ok (.goto 4, 3) := by decide +kernel
theorem dL_isWaySo_157 : decode cL_isWaySo 157 = .ok (.iconst 0, 1) := by decide +kernel
theorem dL_isWaySo_158 : decode cL_isWaySo 158 = .ok (.istore 5, 2) := by decide +kernel
theorem dL_isWaySo_160 : decode cL_isWaySo 160 = .ok (.iload 5, 2) := by decide +kernel
theorem dL_isWaySo_162 : decode cL_isWaySo 162 = .ok (.ifCond .eq 49, 3) := by decide +kernel
theorem dL_isWaySo_165 : decode cL_isWaySo 165 = .ok (.iload_n 3, 1) := by decide +kernel
theorem dL_isWaySo_166 : decode cL_isWaySo 166 = .ok (.ifCond .le 45, 3) := by decide +kernel
theorem dL_isWaySo_169 : decode cL_isWaySo 169 = .ok (.aload_n 0, 1) := by decide +kernel
theorem dL_isWaySo_170 : decode cL_isWaySo 170 = .ok (.iload 7, 2) := by decide +kernel
theorem dL_isWaySo_172 : decode cL_isWaySo 172 = .ok (.invokevirtual 36, 3) := by decide +kernel
theorem dL_isWaySo_175 : decode cL_isWaySo 175 = .ok (.pop, 1) := by decide +kernel
theorem dL_isWaySo_176 : decode cL_isWaySo 176 = .ok (.iinc 3 (-1), 3) := by decide +kernel
theorem dL_isWaySo_179 : decode cL_isWaySo 179 = .ok (.aload_n 0, 1) := by decide +kernel
theorem dL_isWaySo_180 : decode cL_isWaySo 180 = .ok (.iload_n 1, 1) := by decide +kernel
theorem dL_isWaySo_181 : decode cL_isWaySo 181 = .ok (.iload_n 2, 1) := by decide +kernel
theorem dL_isWaySo_182 : decode cL_isWaySo 182 = .ok (.invokestatic 106, 3) := by decide +kernel
theorem dL_isWaySo_185 : decode cL_isWaySo 185 = .ok (.iload_n 3, 1) := by decide +kernel
theorem dL_isWaySo_186 : decode cL_isWaySo 186 = .ok (.if_icmp .le 11, 3) := by decide +kernel
theorem dL_isWaySo_189 : decode cL_isWaySo 189 = .ok (.aload_n 0, 1) := by decide +kernel
theorem dL_isWaySo_190 : decode cL_isWaySo 190 = .ok (.iconst 0, 1) := by decide +kernel
theorem dL_isWaySo_191 : decode cL_isWaySo 191 = .ok (.invokevirtual 39, 3) := by decide +kernel
theorem dL_isWaySo_194 : decode cL_isWaySo 194 = .ok (.ifCond .ge 7, 3) := by decide +kernel
theorem dL_isWaySo_197 : decode cL_isWaySo 197 = .ok (.iconst 1, 1) := by decide +kernel
theorem dL_isWaySo_198 : decode cL_isWaySo 198 = .ok (.goto 4, 3) := by decide +kernel
theorem dL_isWaySo_201 : decode cL_isWaySo 201 = .ok (.iconst 0, 1) := by decide +kernel
theorem dL_isWaySo_202 : decode cL_isWaySo 202 = .ok (.istore 5, 2) := by decide +kernel
theorem dL_isWaySo_204 : decode cL_isWaySo 204 = .ok (.aload_n 0, 1) := by decide +kernel
theorem dL_isWaySo_205 : decode cL_isWaySo 205 = .ok (.iload_n 1, 1) := by decide +kernel
theorem dL_isWaySo_206 : decode cL_isWaySo 206 = .ok (.iload_n 2, 1) := by decide +kernel
theorem dL_isWaySo_207 : decode cL_isWaySo 207 = .ok (.invokestatic 106, 3) := by decide +kernel
theorem dL_isWaySo_210 : decode cL_isWaySo 210 = .ok (.istore_n 3, 1) := by decide +kernel
theorem dL_isWaySo_211 : decode cL_isWaySo 211 = .ok (.iinc 6 1, 3) := by decide +kernel
theorem dL_isWaySo_214 : decode cL_isWaySo 214 = .ok (.goto (-114), 3) := by decide +kernel
theorem dL_isWaySo_217 : decode cL_isWaySo 217 = .ok (.iload 5, 2) := by decide +kernel
theorem dL_isWaySo_219 : decode cL_isWaySo 219 = .ok (.ireturn, 1) := by decide +kernel
theorem dL_isSo_0 : decode cL_isSo 0 = .ok (.aload_n 0, 1) := by decide +kernel
theorem dL_isSo_1 : decode cL_isSo 1 = .ok (.iconst 0, 1) := by decide +kernel
theorem dL_isSo_2 : decode cL_isSo 2 = .ok (.invokevirtual 39, 3) := by decide +kernel
theorem dL_isSo_5 : decode cL_isSo 5 = .ok (.istore_n 2, 1) := by decide +kernel
theorem dL_isSo_6 : decode cL_isSo 6 = .ok (.aload_n 0, 1) := by decide +kernel
theorem dL_isSo_7 : decode cL_isSo 7 = .ok (.invokevirtual 142, 3) := by decide +kernel
theorem dL_isSo_10 : decode cL_isSo 10 = .ok (.istore_n 3, 1) := by decide +kernel
theorem dL_isSo_11 : decode cL_isSo 11 = .ok (.aload_n 0, 1) := by decide +kernel
theorem dL_isSo_12 : decode cL_isSo 12 = .ok (.invokevirtual 145, 3) := by decide +kernel
theorem dL_isSo_15 : decode cL_isSo 15 = .ok (.istore 4, 2) := by decide +kernel
theorem dL_isSo_17 : decode cL_isSo 17 = .ok (.aload_n 0, 1) := by decide +kernel
theorem dL_isSo_18 : decode cL_isSo 18 = .ok (.invokevirtual 123, 3) := by decide +kernel
theorem dL_isSo_21 : decode cL_isSo 21 = .ok (.ifCond .eq 47, 3) := by decide +kernel
theorem dL_isSo_24 : decode cL_isSo 24 = .ok (.iload_n 2, 1) := by decide +kernel
theorem dL_isSo_25 : decode cL_isSo 25 = .ok (.ifCond .ge 7, 3) := by decide +kernel
theorem dL_isSo_28 : decode cL_isSo 28 = .ok (.iconst 1, 1) := by decide +kernel
theorem dL_isSo_29 : decode cL_isSo 29 = .ok (.goto 4, 3) := by decide +kernel
theorem dL_isSo_32 : decode cL_isSo 32 = .ok (.iconst 0, 1) := by decide +kernel
theorem dL_isSo_33 : decode cL_isSo 33 = .ok (.iload 4, 2) := by decide +kernel
theorem dL_isSo_35 : decode cL_isSo 35 = .ok (.ifCond .ge 7, 3) := by decide +kernel
theorem dL_isSo_38 : decode cL_isSo 38 = .ok (.iconst 1, 1) := by decide +kernel
theorem dL_isSo_39 : decode cL_isSo 39 = .ok (.goto 4, 3) := by decide +kernel
theorem dL_isSo_42 : decode cL_isSo 42 = .ok (.iconst 0, 1) := by decide +kernel
theorem dL_isSo_43 : decode cL_isSo 43 = .ok (.if_icmp .ne 25, 3) := by decide +kernel
theorem dL_isSo_46 : decode cL_isSo 46 = .ok (.aload_n 0, 1) := by decide +kernel
theorem dL_isSo_47 : decode cL_isSo 47 = .ok (.iconst 0, 1) := by decide +kernel
theorem dL_isSo_48 : decode cL_isSo 48 = .ok (.invokevirtual 71, 3) := by decide +kernel
theorem dL_isSo_51 : decode cL_isSo 51 = .ok (.ifCond .ne 17, 3) := by decide +kernel
theorem dL_isSo_54 : decode cL_isSo 54 = .ok (.iload_n 3, 1) := by decide +kernel
theorem dL_isSo_55 : decode cL_isSo 55 = .ok (.ifCond .lt 13, 3) := by decide +kernel
theorem dL_isSo_58 : decode cL_isSo 58 = .ok (.iload_n 3, 1) := by decide +kernel
theorem dL_isSo_59 : decode cL_isSo 59 = .ok (.bipush 10, 2) := by decide +kernel
theorem dL_isSo_61 : decode cL_isSo 61 = .ok (.if_icmp .gt 7, 3) := by decide +kernel
theorem dL_isSo_64 : decode cL_isSo 64 = .ok (.iconst 1, 1) := by decide +kernel
theorem dL_isSo_65 : decode cL_isSo 65 = .ok (.goto 4, 3) := by decide +kernel
theorem dL_isSo_68 : decode cL_isSo 68 = .ok (.iconst 0, 1) := by decide +kernel
theorem dL_isSo_69 : decode cL_isSo 69 = .ok (.istore 5, 2) := by decide +kernel
theorem dL_isSo_71 : decode cL_isSo 71 = .ok (.iconst 0, 1) := by decide +kernel
theorem dL_isSo_72 : decode cL_isSo 72 = .ok (.istore 6, 2) := by decide +kernel
theorem dL_isSo_74 : decode cL_isSo 74 = .ok (.aload_n 0, 1) := by decide +kernel
theorem dL_isSo_75 : decode cL_isSo 75 = .ok (.iconst 0, 1) := by decide +kernel
theorem dL_isSo_76 : decode cL_isSo 76 = .ok (.invokestatic 137, 3) := by decide +kernel
theorem dL_isSo_79 : decode cL_isSo 79 = .ok (.ifCond .le 9, 3) := by decide +kernel
theorem dL_isSo_82 : decode cL_isSo 82 = .ok (.iinc 6 1, 3) := by decide +kernel
theorem dL_isSo_85 : decode cL_isSo 85 = .ok (.goto (-11), 3) := by decide +kernel
theorem dL_isSo_88 : decode cL_isSo 88 = .ok (.iload 5, 2) := by decide +kernel
theorem dL_isSo_90 : decode cL_isSo 90 = .ok (.ifCond .eq 74, 3) := by decide +kernel
theorem dL_isSo_93 : decode cL_isSo 93 = .ok (.aload_n 0, 1) := by decide +kernel
theorem dL_isSo_94 : decode cL_isSo 94 = .ok (.invokestatic 85, 3) := by decide +kernel
theorem dL_isSo_97 : decode cL_isSo 97 = .ok (.ifCond .lt 14, 3) := by decide +kernel
theorem dL_isSo_100 : decode cL_isSo 100 = .ok (.iload_n 2, 1) := by decide +kernel
theorem dL_isSo_101 : decode cL_isSo 101 = .ok (.ifCond .lt 10, 3) := by decide +kernel
theorem dL_isSo_104 : decode cL_isSo 104 = .ok (.iload 4, 2) := by decide +kernel
theorem dL_isSo_106 : decode cL_isSo 106 = .ok (.bipush 10, 2) := by decide +kernel
theorem dL_isSo_108 : decode cL_isSo 108 = .ok (.if_icmp .gt 56, 3) := by decide +kernel
theorem dL_isSo_111 : decode cL_isSo 111 = .ok (.iload 6, 2) := by decide +kernel
theorem dL_isSo_113 : decode cL_isSo 113 = .ok (.bipush 10, 2) := by decide +kernel
theorem dL_isSo_115 : decode cL_isSo 115 = .ok (.if_icmp .gt 49, 3) := by decide +kernel
theorem dL_isSo_118 : decode cL_isSo 118 = .ok (.iload_n 2, 1) := by decide +kernel
theorem dL_isSo_119 : decode cL_isSo 119 = .ok (.ifCond .lt 41, 3) := by decide +kernel
theorem dL_isSo_122 : decode cL_isSo 122 = .ok (.aload_n 0, 1) := by decide +kernel
theorem dL_isSo_123 : decode cL_isSo 123 = .ok (.iconst 2, 1) := by decide +kernel
theorem dL_isSo_124 : decode cL_isSo 124 = .ok (.invokevirtual 39, 3) := by decide +kernel
theorem dL_isSo_127 : decode cL_isSo 127 = .ok (.iload_n 2, 1) := by decide +kernel
theorem dL_isSo_128 : decode cL_isSo 128 = .ok (.if_icmp .gt 36, 3) := by decide +kernel
theorem dL_isSo_131 : decode cL_isSo 131 = .ok (.aload_n 0, 1) := by decide +kernel
theorem dL_isSo_132 : decode cL_isSo 132 = .ok (.iconst 1, 1) := by decide +kernel
theorem dL_isSo_133 : decode cL_isSo 133 = .ok (.invokevirtual 39, 3) := by decide +kernel
theorem dL_isSo_136 : decode cL_isSo 136 = .ok (.aload_n 0, 1) := by decide +kernel
theorem dL_isSo_137 : decode cL_isSo 137 = .ok (.iconst 0, 1) := by decide +kernel
theorem dL_isSo_138 : decode cL_isSo 138 = .ok (.invokevirtual 39, 3) := by decide +kernel
theorem dL_isSo_141 : decode cL_isSo 141 = .ok (.iconst 1, 1) := by decide +kernel
theorem dL_isSo_142 : decode cL_isSo 142 = .ok (.isub, 1) := by decide +kernel
theorem dL_isSo_143 : decode cL_isSo 143 = .ok (.if_icmp .lt 21, 3) := by decide +kernel
theorem dL_isSo_146 : decode cL_isSo 146 = .ok (.aload_n 0, 1) := by decide +kernel
theorem dL_isSo_147 : decode cL_isSo 147 = .ok (.iconst 0, 1) := by decide +kernel
theorem dL_isSo_148 : decode cL_isSo 148 = .ok (.iconst 0, 1) := by decide +kernel
theorem dL_isSo_149 : decode cL_isSo 149 = .ok (.invokevirtual 42, 3) := by decide +kernel
theorem dL_isSo_152 : decode cL_isSo 152 = .ok (.aload_n 0, 1) := by decide +kernel
theorem dL_isSo_153 : decode cL_isSo 153 = .ok (.iconst 0, 1) := by decide +kernel
theorem dL_isSo_154 : decode cL_isSo 154 = .ok (.invokevirtual 29, 3) := by decide +kernel
theorem dL_isSo_157 : decode cL_isSo 157 = .ok (.if_icmp .ne 7, 3) := by decide +kernel
theorem dL_isSo_160 : decode cL_isSo 160 = .ok (.iconst 1, 1) := by decide +kernel
theorem dL_isSo_161 : decode cL_isSo 161 = .ok (.goto 4, 3) := by decide +kernel
theorem dL_isSo_164 : decode cL_isSo 164 = .ok (.iconst 0, 1) := by decide +kernel
theorem dL_isSo_165 : decode cL_isSo 165 = .ok (.istore 5, 2) := by decide +kernel
theorem dL_isSo_167 : decode cL_isSo 167 = .ok (.aload_n 0, 1) := by decide +kernel
theorem dL_isSo_168 : decode cL_isSo 168 = .ok (.invokevirtual 139, 3) := by decide +kernel
theorem dL_isSo_171 : decode cL_isSo 171 = .ok (.pop, 1) := by decide +kernel
theorem dL_isSo_172 : decode cL_isSo 172 = .ok (.iload 5, 2) := by decide +kernel
theorem dL_isSo_174 : decode cL_isSo 174 = .ok (.ifCond .eq 40, 3) := by decide +kernel
theorem dL_isSo_177 : decode cL_isSo 177 = .ok (.aload_n 0, 1) := by decide +kernel
theorem dL_isSo_178 : decode cL_isSo 178 = .ok (.invokevirtual 142, 3) := by decide +kernel
theorem dL_isSo_181 : decode cL_isSo 181 = .ok (.ifCond .ne 33, 3) := by decide +kernel
theorem dL_isSo_184 : decode cL_isSo 184 = .ok (.aload_n 0, 1) := by decide +kernel
theorem dL_isSo_185 : decode cL_isSo 185 = .ok (.iconst 0, 1) := by decide +kernel
theorem dL_isSo_186 : decode cL_isSo 186 = .ok (.invokevirtual 39, 3) := by decide +kernel
theorem dL_isSo_189 : decode cL_isSo 189 = .ok (.ifCond .ge 14, 3) := by decide +kernel
theorem dL_isSo_192 : decode cL_isSo 192 = .ok (.aload_n 0, 1) := by decide +kernel
theorem dL_isSo_193 : decode cL_isSo 193 = .ok (.invokevirtual 145, 3) := by decide +kernel
theorem dL_isSo_196 : decode cL_isSo 196 = .ok (.iconst (-1), 1) := by decide +kernel
theorem dL_isSo_197 : decode cL_isSo 197 = .ok (.if_icmp .ne 17, 3) := by decide +kernel
theorem dL_isSo_200 : decode cL_isSo 200 = .ok (.goto 10, 3) := by decide +kernel
theorem dL_isSo_203 : decode cL_isSo 203 = .ok (.aload_n 0, 1) := by decide +kernel
theorem dL_isSo_204 : decode cL_isSo 204 = .ok (.invokevirtual 145, 3) := by decide +kernel
theorem dL_isSo_207 : decode cL_isSo 207 = .ok (.ifCond .ne 7, 3) := by decide +kernel
theorem dL_isSo_210 : decode cL_isSo 210 = .ok (.iconst 1, 1) := by decide +kernel
theorem dL_isSo_211 : decode cL_isSo 211 = .ok (.goto 4, 3) := by decide +kernel
theorem dL_isSo_214 : decode cL_isSo 214 = .ok (.iconst 0, 1) := by decide +kernel
theorem dL_isSo_215 : decode cL_isSo 215 = .ok (.istore 5, 2) := by decide +kernel
theorem dL_isSo_217 : decode cL_isSo 217 = .ok (.iconst 0, 1) := by decide +kernel
theorem dL_isSo_218 : decode cL_isSo 218 = .ok (.istore 7, 2) := by decide +kernel
theorem dL_isSo_220 : decode cL_isSo 220 = .ok (.iload 7, 2) := by decide +kernel
theorem dL_isSo_222 : decode cL_isSo 222 = .ok (.bipush 6, 2) := by decide +kernel
theorem dL_isSo_224 : decode cL_isSo 224 = .ok (.if_icmp .ge 54, 3) := by decide +kernel
theorem dL_isSo_227 : decode cL_isSo 227 = .ok (.iload 5, 2) := by decide +kernel
theorem dL_isSo_229 : decode cL_isSo 229 = .ok (.ifCond .eq 49, 3) := by decide +kernel
theorem dL_isSo_232 : decode cL_isSo 232 = .ok (.aload_n 0, 1) := by decide +kernel
theorem dL_isSo_233 : decode cL_isSo 233 = .ok (.iload 7, 2) := by decide +kernel
theorem dL_isSo_235 : decode cL_isSo 235 = .ok (.invokestatic 102, 3) := by decide +kernel
theorem dL_isSo_238 : decode cL_isSo 238 = .ok (.istore 8, 2) := by decide +kernel
theorem dL_isSo_240 : decode cL_isSo 240 = .ok (.aload_n 0, 1) := by decide +kernel
theorem dL_isSo_241 : decode cL_isSo 241 = .ok (.iload 7, 2) := by decide +kernel
theorem dL_isSo_243 : decode cL_isSo 243 = .ok (.invokestatic 116, 3) := by decide +kernel
theorem dL_isSo_246 : decode cL_isSo 246 = .ok (.istore 9, 2) := by decide +kernel
theorem dL_isSo_248 : decode cL_isSo 248 = .ok (.iload 8, 2) := by decide +kernel
theorem dL_isSo_250 : decode cL_isSo 250 = .ok (.ifCond .lt 15, 3) := by decide +kernel
theorem dL_isSo_253 : decode cL_isSo 253 = .ok (.iload 9, 2) := by decide +kernel
theorem dL_isSo_255 : decode cL_isSo 255 = .ok (.ifCond .lt 10, 3) := by decide +kernel
theorem dL_isSo_258 : decode cL_isSo 258 = .ok (.iload 8, 2) := by decide +kernel
theorem dL_isSo_260 : decode cL_isSo 260 = .ok (.iload 9, 2) := by decide +kernel
theorem dL_isSo_262 : decode cL_isSo 262 = .ok (.if_icmp .gt 7, 3) := by decide +kernel
theorem dL_isSo_265 : decode cL_isSo 265 = .ok (.iconst 1, 1) := by decide +kernel
theorem dL_isSo_266 : decode cL_isSo 266 = .ok (.goto 4, 3) := by decide +kernel
theorem dL_isSo_269 : decode cL_isSo 269 = .ok (.iconst 0, 1) := by decide +kernel
theorem dL_isSo_270 : decode cL_isSo 270 = .ok (.istore 5, 2) := by decide +kernel
theorem dL_isSo_272 : decode cL_isSo 272 = .ok (.iinc 7 1, 3) := by decide +kernel
theorem dL_isSo_275 : decode cL_isSo 275 = .ok (.goto (-55), 3) := by decide +kernel
theorem dL_isSo_278 : decode cL_isSo 278 = .ok (.iconst 0, 1) := by decide +kernel
theorem dL_isSo_279 : decode cL_isSo 279 = .ok (.istore 7, 2) := by decide +kernel
theorem dL_isSo_281 : decode cL_isSo 281 = .ok (.iload 7, 2) := by decide +kernel
theorem dL_isSo_283 : decode cL_isSo 283 = .ok (.aload_n 0, 1) := by decide +kernel
theorem dL_isSo_284 : decode cL_isSo 284 = .ok (.invokevirtual 127, 3) := by decide +kernel
theorem dL_isSo_287 : decode cL_isSo 287 = .ok (.if_icmp .ge 92, 3) := by decide +kernel
theorem dL_isSo_290 : decode cL_isSo 290 = .ok (.iload 7, 2) := by decide +kernel
theorem dL_isSo_292 : decode cL_isSo 292 = .ok (.bipush 6, 2) := by decide +kernel
theorem dL_isSo_294 : decode cL_isSo 294 = .ok (.if_icmp .ge 85, 3) := by decide +kernel
theorem dL_isSo_297 : decode cL_isSo 297 = .ok (.iload 5, 2) := by decide +kernel
theorem dL_isSo_299 : decode cL_isSo 299 = .ok (.ifCond .eq 80, 3) := by decide +kernel
theorem dL_isSo_302 : decode cL_isSo 302 = .ok (.aload_n 0, 1) := by decide +kernel
theorem dL_isSo_303 : decode cL_isSo 303 = .ok (.iload 7, 2) := by decide +kernel
theorem dL_isSo_305 : decode cL_isSo 305 = .ok (.invokevirtual 68, 3) := by decide +kernel
theorem dL_isSo_308 : decode cL_isSo 308 = .ok (.istore 8, 2) := by decide +kernel
theorem dL_isSo_310 : decode cL_isSo 310 = .ok (.iload 8, 2) := by decide +kernel
theorem dL_isSo_312 : decode cL_isSo 312 = .ok (.ifCond .le 58, 3) := by decide +kernel
theorem dL_isSo_315 : decode cL_isSo 315 = .ok (.aload_n 0, 1) := by decide +kernel
theorem dL_isSo_316 : decode cL_isSo 316 = .ok (.iload 8, 2) := by decide +kernel
theorem dL_isSo_318 : decode cL_isSo 318 = .ok (.invokevirtual 71, 3) := by decide +kernel
theorem dL_isSo_321 : decode cL_isSo 321 = .ok (.iload 8, 2) := by decide +kernel
theorem dL_isSo_323 : decode cL_isSo 323 = .ok (.iconst (-1), 1) := by decide +kernel
theorem dL_isSo_324 : decode cL_isSo 324 = .ok (.ixor, 1) := by decide +kernel
theorem dL_isSo_325 : decode cL_isSo 325 = .ok (.iand, 1) := by decide +kernel
theorem dL_isSo_326 : decode cL_isSo 326 = .ok (.ifCond .ne 44, 3) := by decide +kernel
theorem dL_isSo_329 : decode cL_isSo 329 = .ok (.aload_n 0, 1) := by decide +kernel
theorem dL_isSo_330 : decode cL_isSo 330 = .ok (.aload_n 0, 1) := by decide +kernel
theorem dL_isSo_331 : decode cL_isSo 331 = .ok (.iload 8, 2) := by decide +kernel
theorem dL_isSo_333 : decode cL_isSo 333 = .ok (.invokevirtual 71, 3) := by decide +kernel
theorem dL_isSo_336 : decode cL_isSo 336 = .ok (.invokevirtual 71, 3) := by decide +kernel
theorem dL_isSo_339 : decode cL_isSo 339 = .ok (.aload_n 0, 1) := by decide +kernel
theorem dL_isSo_340 : decode cL_isSo 340 = .ok (.iload 8, 2) := by decide +kernel
theorem dL_isSo_342 : decode cL_isSo 342 = .ok (.invokevirtual 71, 3) := by decide +kernel
theorem dL_isSo_345 : decode cL_isSo 345 = .ok (.if_icmp .ne 25, 3) := by decide +kernel
theorem dL_isSo_348 : decode cL_isSo 348 = .ok (.iload 7, 2) := by decide +kernel
theorem dL_isSo_350 : decode cL_isSo 350 = .ok (.ifCond .eq 16, 3) := by decide +kernel
theorem dL_isSo_353 : decode cL_isSo 353 = .ok (.iload 8, 2) := by decide +kernel
theorem dL_isSo_355 : decode cL_isSo 355 = .ok (.aload_n 0, 1) := by decide +kernel
theorem dL_isSo_356 : decode cL_isSo 356 = .ok (.iload 7, 2) := by decide +kernel
theorem dL_isSo_358 : decode cL_isSo 358 = .ok (.iconst 1, 1) := by decide +kernel
theorem dL_isSo_359 : decode cL_isSo 359 = .ok (.isub, 1) := by decide +kernel
theorem dL_isSo_360 : decode cL_isSo 360 = .ok (.invokevirtual 68, 3) := by decide +kernel
theorem dL_isSo_363 : decode cL_isSo 363 = .ok (.if_icmp .le 7, 3) := by decide +kernel
theorem dL_isSo_366 : decode cL_isSo 366 = .ok (.iconst 1, 1) := by decide +kernel
theorem dL_isSo_367 : decode cL_isSo 367 = .ok (.goto 4, 3) := by decide +kernel
theorem dL_isSo_370 : decode cL_isSo 370 = .ok (.iconst 0, 1) := by decide +kernel
theorem dL_isSo_371 : decode cL_isSo 371 = .ok (.istore 5, 2) := by decide +kernel
theorem dL_isSo_373 : decode cL_isSo 373 = .ok (.iinc 7 1, 3) := by decide +kernel
theorem dL_isSo_376 : decode cL_isSo 376 = .ok (.goto (-95), 3) := by decide +kernel
theorem dL_isSo_379 : decode cL_isSo 379 = .ok (.iload 5, 2) := by decide +kernel
theorem dL_isSo_381 : decode cL_isSo 381 = .ok (.ifCond .eq 30, 3) := by decide +kernel
theorem dL_isSo_384 : decode cL_isSo 384 = .ok (.aload_n 0, 1) := by decide +kernel
theorem dL_isSo_385 : decode cL_isSo 385 = .ok (.iload_n 1, 1) := by decide +kernel
theorem dL_isSo_386 : decode cL_isSo 386 = .ok (.iconst 3, 1) := by decide +kernel
theorem dL_isSo_387 : decode cL_isSo 387 = .ok (.ishr, 1) := by decide +kernel
theorem dL_isSo_388 : decode cL_isSo 388 = .ok (.iconst 3, 1) := by decide +kernel
theorem dL_isSo_389 : decode cL_isSo 389 = .ok (.invokestatic 77, 3) := by decide +kernel
theorem dL_isSo_392 : decode cL_isSo 392 = .ok (.iload_n 1, 1) := by decide +kernel
theorem dL_isSo_393 : decode cL_isSo 393 = .ok (.bipush 6, 2) := by decide +kernel
theorem dL_isSo_395 : decode cL_isSo 395 = .ok (.ishr, 1) := by decide +kernel
theorem dL_isSo_396 : decode cL_isSo 396 = .ok (.bipush 6, 2) := by decide +kernel
theorem dL_isSo_398 : decode cL_isSo 398 = .ok (.invokestatic 77, 3) := by decide +kernel
theorem dL_isSo_401 : decode cL_isSo 401 = .ok (.invokestatic 148, 3) := by decide +kernel
theorem dL_isSo_404 : decode cL_isSo 404 = .ok (.ifCond .eq 7, 3) := by decide +kernel
theorem dL_isSo_407 : decode cL_isSo 407 = .ok (.iconst 1, 1) := by decide +kernel
theorem dL_isSo_408 : decode cL_isSo 408 = .ok (.goto 4, 3) := by decide +kernel
theorem dL_isSo_411 : decode cL_isSo 411 = .ok (.iconst 0, 1) := by decide +kernel
theorem dL_isSo_412 : decode cL_isSo 412 = .ok (.ireturn, 1) := by decide +kernel
theorem dL_law_0 : decode cL_law 0 = .ok (.new 9, 3) := by decide +kernel
theorem dL_law_3 : decode cL_law 3 = .ok (.dup, 1) := by decide +kernel
theorem dL_law_4 : decode cL_law 4 = .ok (.invokespecial 152, 3) := by decide +kernel
theorem dL_law_7 : decode cL_law 7 = .ok (.astore_n 1, 1) := by decide +kernel
theorem dL_law_8 : decode cL_law 8 = .ok (.new 9, 3) := by decide +kernel
theorem dL_law_11 : decode cL_law 11 = .ok (.dup, 1) := by decide +kernel
theorem dL_law_12 : decode cL_law 12 = .ok (.invokespecial 152, 3) := by decide +kernel
theorem dL_law_15 : decode cL_law 15 = .ok (.astore_n 2, 1) := by decide +kernel
theorem dL_law_16 : decode cL_law 16 = .ok (.iconst 1, 1) := by decide +kernel
theorem dL_law_17 : decode cL_law 17 = .ok (.istore_n 3, 1) := by decide +kernel
theorem dL_law_18 : decode cL_law 18 = .ok (.iconst 0, 1) := by decide +kernel
theorem dL_law_19 : decode cL_law 19 = .ok (.istore 4, 2) := by decide +kernel
theorem dL_law_21 : decode cL_law 21 = .ok (.iload 4, 2) := by decide +kernel
theorem dL_law_23 : decode cL_law 23 = .ok (.iconst 3, 1) := by decide +kernel
theorem dL_law_24 : decode cL_law 24 = .ok (.if_icmp .ge 61, 3) := by decide +kernel
theorem dL_law_27 : decode cL_law 27 = .ok (.aload_n 0, 1) := by decide +kernel
theorem dL_law_28 : decode cL_law 28 = .ok (.iconst 0, 1) := by decide +kernel
theorem dL_law_29 : decode cL_law 29 = .ok (.invokestatic 153, 3) := by decide +kernel
theorem dL_law_32 : decode cL_law 32 = .ok (.iconst 4, 1) := by decide +kernel
theorem dL_law_33 : decode cL_law 33 = .ok (.iload 4, 2) := by decide +kernel
theorem dL_law_35 : decode cL_law 35 = .ok (.imul, 1) := by decide +kernel
theorem dL_law_36 : decode cL_law 36 = .ok (.ishr, 1) := by decide +kernel
theorem dL_law_37 : decode cL_law 37 = .ok (.iconst 4, 1) := by decide +kernel
theorem dL_law_38 : decode cL_law 38 = .ok (.invokestatic 77, 3) := by decide +kernel
theorem dL_law_41 : decode cL_law 41 = .ok (.istore 5, 2) := by decide +kernel
theorem dL_law_43 : decode cL_law 43 = .ok (.iload_n 3, 1) := by decide +kernel
theorem dL_law_44 : decode cL_law 44 = .ok (.ifCond .eq 33, 3) := by decide +kernel
theorem dL_law_47 : decode cL_law 47 = .ok (.aload_n 1, 1) := by decide +kernel
theorem dL_law_48 : decode cL_law 48 = .ok (.iload 5, 2) := by decide +kernel
theorem dL_law_50 : decode cL_law 50 = .ok (.invokevirtual 8, 3) := by decide +kernel
theorem dL_law_53 : decode cL_law 53 = .ok (.aload_n 2, 1) := by decide +kernel
theorem dL_law_54 : decode cL_law 54 = .ok (.iload 5, 2) := by decide +kernel
theorem dL_law_56 : decode cL_law 56 = .ok (.invokevirtual 8, 3) := by decide +kernel
theorem dL_law_59 : decode cL_law 59 = .ok (.if_icmp .ne 18, 3) := by decide +kernel
theorem dL_law_62 : decode cL_law 62 = .ok (.aload_n 1, 1) := by decide +kernel
theorem dL_law_63 : decode cL_law 63 = .ok (.invokevirtual 19, 3) := by decide +kernel
theorem dL_law_66 : decode cL_law 66 = .ok (.aload_n 2, 1) := by decide +kernel
theorem dL_law_67 : decode cL_law 67 = .ok (.invokevirtual 19, 3) := by decide +kernel
theorem dL_law_70 : decode cL_law 70 = .ok (.if_icmp .ne 7, 3) := by decide +kernel
theorem dL_law_73 : decode cL_law 73 = .ok (.iconst 1, 1) := by decide +kernel
theorem dL_law_74 : decode cL_law 74 = .ok (.goto 4, 3) := by decide +kernel
theorem dL_law_77 : decode cL_law 77 = .ok (.iconst 0, 1) := by decide +kernel
theorem dL_law_78 : decode cL_law 78 = .ok (.istore_n 3, 1) := by decide +kernel
theorem dL_law_79 : decode cL_law 79 = .ok (.iinc 4 1, 3) := by decide +kernel
theorem dL_law_82 : decode cL_law 82 = .ok (.goto (-61), 3) := by decide +kernel
theorem dL_law_85 : decode cL_law 85 = .ok (.iconst 1, 1) := by decide +kernel
theorem dL_law_86 : decode cL_law 86 = .ok (.istore 4, 2) := by decide +kernel
theorem dL_law_88 : decode cL_law 88 = .ok (.iload 4, 2) := by decide +kernel
theorem dL_law_90 : decode cL_law 90 = .ok (.bipush 90, 2) := by decide +kernel
theorem dL_law_92 : decode cL_law 92 = .ok (.if_icmp .ge 75, 3) := by decide +kernel
theorem dL_law_95 : decode cL_law 95 = .ok (.iload_n 3, 1) := by decide +kernel
theorem dL_law_96 : decode cL_law 96 = .ok (.ifCond .eq 71, 3) := by decide +kernel
theorem dL_law_99 : decode cL_law 99 = .ok (.aload_n 0, 1) := by decide +kernel
theorem dL_law_100 : decode cL_law 100 = .ok (.iload 4, 2) := by decide +kernel
theorem dL_law_102 : decode cL_law 102 = .ok (.invokestatic 153, 3) := by decide +kernel
theorem dL_law_105 : decode cL_law 105 = .ok (.istore 5, 2) := by decide +kernel
theorem dL_law_107 : decode cL_law 107 = .ok (.aload_n 1, 1) := by decide +kernel
theorem dL_law_108 : decode cL_law 108 = .ok (.iload 5, 2) := by decide +kernel
theorem dL_law_110 : decode cL_law 110 = .ok (.invokestatic 157, 3) := by decide +kernel
theorem dL_law_113 : decode cL_law 113 = .ok (.istore 6, 2) := by decide +kernel
theorem dL_law_115 : decode cL_law 115 = .ok (.iload 6, 2) := by decide +kernel
theorem dL_law_117 : decode cL_law 117 = .ok (.ldc 16, 2) := by decide +kernel
theorem dL_law_119 : decode cL_law 119 = .ok (.if_icmp .eq 14, 3) := by decide +kernel
theorem dL_law_122 : decode cL_law 122 = .ok (.aload_n 2, 1) := by decide +kernel
theorem dL_law_123 : decode cL_law 123 = .ok (.iload 5, 2) := by decide +kernel
theorem dL_law_125 : decode cL_law 125 = .ok (.invokestatic 157, 3) := by decide +kernel
theorem dL_law_128 : decode cL_law 128 = .ok (.iload 6, 2) := by decide +kernel
theorem dL_law_130 : decode cL_law 130 = .ok (.if_icmp .ne 29, 3) := by decide +kernel
theorem dL_law_133 : decode cL_law 133 = .ok (.iload 4, 2) := by decide +kernel
theorem dL_law_135 : decode cL_law 135 = .ok (.bipush 30, 2) := by decide +kernel
theorem dL_law_137 : decode cL_law 137 = .ok (.irem, 1) := by decide +kernel
theorem dL_law_138 : decode cL_law 138 = .ok (.bipush 29, 2) := by decide +kernel
theorem dL_law_140 : decode cL_law 140 = .ok (.if_icmp .lt 15, 3) := by decide +kernel
theorem dL_law_143 : decode cL_law 143 = .ok (.aload_n 1, 1) := by decide +kernel
theorem dL_law_144 : decode cL_law 144 = .ok (.aload_n 2, 1) := by decide +kernel
theorem dL_law_145 : decode cL_law 145 = .ok (.iload 5, 2) := by decide +kernel
theorem dL_law_147 : decode cL_law 147 = .ok (.iconst 3, 1) := by decide +kernel
theorem dL_law_148 : decode cL_law 148 = .ok (.ishr, 1) := by decide +kernel
theorem dL_law_149 : decode cL_law 149 = .ok (.invokestatic 160, 3) := by decide +kernel
theorem dL_law_152 : decode cL_law 152 = .ok (.ifCond .eq 7, 3) := by decide +kernel
theorem dL_law_155 : decode cL_law 155 = .ok (.iconst 1, 1) := by decide +kernel
theorem dL_law_156 : decode cL_law 156 = .ok (.goto 4, 3) := by decide +kernel
theorem dL_law_159 : decode cL_law 159 = .ok (.iconst 0, 1) := by decide +kernel
theorem dL_law_160 : decode cL_law 160 = .ok (.istore_n 3, 1) := by decide +kernel
theorem dL_law_161 : decode cL_law 161 = .ok (.iinc 4 1, 3) := by decide +kernel
theorem dL_law_164 : decode cL_law 164 = .ok (.goto (-76), 3) := by decide +kernel
theorem dL_law_167 : decode cL_law 167 = .ok (.iload_n 3, 1) := by decide +kernel
theorem dL_law_168 : decode cL_law 168 = .ok (.ifCond .eq 20, 3) := by decide +kernel
theorem dL_law_171 : decode cL_law 171 = .ok (.aload_n 1, 1) := by decide +kernel
theorem dL_law_172 : decode cL_law 172 = .ok (.aload_n 0, 1) := by decide +kernel
theorem dL_law_173 : decode cL_law 173 = .ok (.bipush 90, 2) := by decide +kernel
theorem dL_law_175 : decode cL_law 175 = .ok (.invokestatic 153, 3) := by decide +kernel
theorem dL_law_178 : decode cL_law 178 = .ok (.invokestatic 164, 3) := by decide +kernel
theorem dL_law_181 : decode cL_law 181 = .ok (.ifCond .eq 7, 3) := by decide +kernel
theorem dL_law_184 : decode cL_law 184 = .ok (.iconst 1, 1) := by decide +kernel
theorem dL_law_185 : decode cL_law 185 = .ok (.goto 4, 3) := by decide +kernel
theorem dL_law_188 : decode cL_law 188 = .ok (.iconst 0, 1) := by decide +kernel
theorem dL_law_189 : decode cL_law 189 = .ok (.ireturn, 1) := by decide +kernel
