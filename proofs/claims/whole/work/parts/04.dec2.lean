theorem dX5_marking_41 : decode cX5_marking 41 = .ok (.getfield 124, 3) := by decide +kernel
theorem dX5_marking_44 : decode cX5_marking 44 = .ok (.if_icmp .lt 5, 3) := by decide +kernel
theorem dX5_marking_47 : decode cX5_marking 47 = .ok (.iconst (-1), 1) := by decide +kernel
theorem dX5_marking_48 : decode cX5_marking 48 = .ok (.ireturn, 1) := by decide +kernel
theorem dX5_marking_49 : decode cX5_marking 49 = .ok (.aload_n 0, 1) := by decide +kernel
theorem dX5_marking_50 : decode cX5_marking 50 = .ok (.getfield 21, 3) := by decide +kernel
theorem dX5_marking_53 : decode cX5_marking 53 = .ok (.iload_n 1, 1) := by decide +kernel
theorem dX5_marking_54 : decode cX5_marking 54 = .ok (.iload_n 2, 1) := by decide +kernel
theorem dX5_marking_55 : decode cX5_marking 55 = .ok (.invokevirtual 139, 3) := by decide +kernel
theorem dX5_marking_58 : decode cX5_marking 58 = .ok (.ireturn, 1) := by decide +kernel
theorem dX5_most_0 : decode cX5_most 0 = .ok (.aload_n 0, 1) := by decide +kernel
theorem dX5_most_1 : decode cX5_most 1 = .ok (.iload_n 1, 1) := by decide +kernel
theorem dX5_most_2 : decode cX5_most 2 = .ok (.invokevirtual 84, 3) := by decide +kernel
theorem dX5_most_5 : decode cX5_most 5 = .ok (.aload_n 0, 1) := by decide +kernel
theorem dX5_most_6 : decode cX5_most 6 = .ok (.getfield 21, 3) := by decide +kernel
theorem dX5_most_9 : decode cX5_most 9 = .ok (.invokevirtual 117, 3) := by decide +kernel
theorem dX5_most_12 : decode cX5_most 12 = .ok (.aload_n 0, 1) := by decide +kernel
theorem dX5_most_13 : decode cX5_most 13 = .ok (.getfield 21, 3) := by decide +kernel
theorem dX5_most_16 : decode cX5_most 16 = .ok (.getfield 120, 3) := by decide +kernel
theorem dX5_most_19 : decode cX5_most 19 = .ok (.ifCond .eq 7, 3) := by decide +kernel
theorem dX5_most_22 : decode cX5_most 22 = .ok (.iconst (-1), 1) := by decide +kernel
theorem dX5_most_23 : decode cX5_most 23 = .ok (.goto 11, 3) := by decide +kernel
theorem dX5_most_26 : decode cX5_most 26 = .ok (.aload_n 0, 1) := by decide +kernel
theorem dX5_most_27 : decode cX5_most 27 = .ok (.getfield 21, 3) := by decide +kernel
theorem dX5_most_30 : decode cX5_most 30 = .ok (.iload_n 1, 1) := by decide +kernel
theorem dX5_most_31 : decode cX5_most 31 = .ok (.invokevirtual 143, 3) := by decide +kernel
theorem dX5_most_34 : decode cX5_most 34 = .ok (.ireturn, 1) := by decide +kernel
theorem dX5_level_0 : decode cX5_level 0 = .ok (.aload_n 0, 1) := by decide +kernel
theorem dX5_level_1 : decode cX5_level 1 = .ok (.iload_n 1, 1) := by decide +kernel
theorem dX5_level_2 : decode cX5_level 2 = .ok (.invokevirtual 81, 3) := by decide +kernel
theorem dX5_level_5 : decode cX5_level 5 = .ok (.aload_n 0, 1) := by decide +kernel
theorem dX5_level_6 : decode cX5_level 6 = .ok (.getfield 21, 3) := by decide +kernel
theorem dX5_level_9 : decode cX5_level 9 = .ok (.invokevirtual 117, 3) := by decide +kernel
theorem dX5_level_12 : decode cX5_level 12 = .ok (.aload_n 0, 1) := by decide +kernel
theorem dX5_level_13 : decode cX5_level 13 = .ok (.getfield 21, 3) := by decide +kernel
theorem dX5_level_16 : decode cX5_level 16 = .ok (.getfield 120, 3) := by decide +kernel
theorem dX5_level_19 : decode cX5_level 19 = .ok (.ifCond .eq 7, 3) := by decide +kernel
theorem dX5_level_22 : decode cX5_level 22 = .ok (.iconst (-1), 1) := by decide +kernel
theorem dX5_level_23 : decode cX5_level 23 = .ok (.goto 11, 3) := by decide +kernel
theorem dX5_level_26 : decode cX5_level 26 = .ok (.aload_n 0, 1) := by decide +kernel
theorem dX5_level_27 : decode cX5_level 27 = .ok (.getfield 21, 3) := by decide +kernel
theorem dX5_level_30 : decode cX5_level 30 = .ok (.iload_n 1, 1) := by decide +kernel
theorem dX5_level_31 : decode cX5_level 31 = .ok (.invokevirtual 146, 3) := by decide +kernel
theorem dX5_level_34 : decode cX5_level 34 = .ok (.ireturn, 1) := by decide +kernel
theorem dX5_way_0 : decode cX5_way 0 = .ok (.aload_n 0, 1) := by decide +kernel
theorem dX5_way_1 : decode cX5_way 1 = .ok (.iload_n 1, 1) := by decide +kernel
theorem dX5_way_2 : decode cX5_way 2 = .ok (.invokevirtual 84, 3) := by decide +kernel
theorem dX5_way_5 : decode cX5_way 5 = .ok (.iload_n 2, 1) := by decide +kernel
theorem dX5_way_6 : decode cX5_way 6 = .ok (.invokestatic 53, 3) := by decide +kernel
theorem dX5_way_9 : decode cX5_way 9 = .ok (.aload_n 0, 1) := by decide +kernel
theorem dX5_way_10 : decode cX5_way 10 = .ok (.getfield 21, 3) := by decide +kernel
theorem dX5_way_13 : decode cX5_way 13 = .ok (.invokevirtual 117, 3) := by decide +kernel
theorem dX5_way_16 : decode cX5_way 16 = .ok (.aload_n 0, 1) := by decide +kernel
theorem dX5_way_17 : decode cX5_way 17 = .ok (.getfield 21, 3) := by decide +kernel
theorem dX5_way_20 : decode cX5_way 20 = .ok (.getfield 120, 3) := by decide +kernel
theorem dX5_way_23 : decode cX5_way 23 = .ok (.ifCond .eq 7, 3) := by decide +kernel
theorem dX5_way_26 : decode cX5_way 26 = .ok (.iconst (-1), 1) := by decide +kernel
theorem dX5_way_27 : decode cX5_way 27 = .ok (.goto 19, 3) := by decide +kernel
theorem dX5_way_30 : decode cX5_way 30 = .ok (.aload_n 0, 1) := by decide +kernel
theorem dX5_way_31 : decode cX5_way 31 = .ok (.getfield 21, 3) := by decide +kernel
theorem dX5_way_34 : decode cX5_way 34 = .ok (.aload_n 0, 1) := by decide +kernel
theorem dX5_way_35 : decode cX5_way 35 = .ok (.getfield 21, 3) := by decide +kernel
theorem dX5_way_38 : decode cX5_way 38 = .ok (.iload_n 1, 1) := by decide +kernel
theorem dX5_way_39 : decode cX5_way 39 = .ok (.iload_n 2, 1) := by decide +kernel
theorem dX5_way_40 : decode cX5_way 40 = .ok (.invokevirtual 149, 3) := by decide +kernel
theorem dX5_way_43 : decode cX5_way 43 = .ok (.invokevirtual 152, 3) := by decide +kernel
theorem dX5_way_46 : decode cX5_way 46 = .ok (.ireturn, 1) := by decide +kernel
theorem dX5_step_0 : decode cX5_step 0 = .ok (.aload_n 0, 1) := by decide +kernel
theorem dX5_step_1 : decode cX5_step 1 = .ok (.iload_n 1, 1) := by decide +kernel
theorem dX5_step_2 : decode cX5_step 2 = .ok (.invokevirtual 84, 3) := by decide +kernel
theorem dX5_step_5 : decode cX5_step 5 = .ok (.iload_n 2, 1) := by decide +kernel
theorem dX5_step_6 : decode cX5_step 6 = .ok (.invokestatic 53, 3) := by decide +kernel
theorem dX5_step_9 : decode cX5_step 9 = .ok (.iload_n 3, 1) := by decide +kernel
theorem dX5_step_10 : decode cX5_step 10 = .ok (.ifCond .ge 13, 3) := by decide +kernel
theorem dX5_step_13 : decode cX5_step 13 = .ok (.new 87, 3) := by decide +kernel
theorem dX5_step_16 : decode cX5_step 16 = .ok (.dup, 1) := by decide +kernel
theorem dX5_step_17 : decode cX5_step 17 = .ok (.ldc 155, 2) := by decide +kernel
theorem dX5_step_19 : decode cX5_step 19 = .ok (.invokespecial 91, 3) := by decide +kernel
theorem dX5_step_22 : decode cX5_step 22 = .ok (.athrow, 1) := by decide +kernel
theorem dX5_step_23 : decode cX5_step 23 = .ok (.aload_n 0, 1) := by decide +kernel
theorem dX5_step_24 : decode cX5_step 24 = .ok (.getfield 21, 3) := by decide +kernel
theorem dX5_step_27 : decode cX5_step 27 = .ok (.invokevirtual 117, 3) := by decide +kernel
theorem dX5_step_30 : decode cX5_step 30 = .ok (.aload_n 0, 1) := by decide +kernel
theorem dX5_step_31 : decode cX5_step 31 = .ok (.getfield 21, 3) := by decide +kernel
theorem dX5_step_34 : decode cX5_step 34 = .ok (.getfield 120, 3) := by decide +kernel
theorem dX5_step_37 : decode cX5_step 37 = .ok (.ifCond .eq 7, 3) := by decide +kernel
theorem dX5_step_40 : decode cX5_step 40 = .ok (.iconst (-1), 1) := by decide +kernel
theorem dX5_step_41 : decode cX5_step 41 = .ok (.goto 20, 3) := by decide +kernel
theorem dX5_step_44 : decode cX5_step 44 = .ok (.aload_n 0, 1) := by decide +kernel
theorem dX5_step_45 : decode cX5_step 45 = .ok (.getfield 21, 3) := by decide +kernel
theorem dX5_step_48 : decode cX5_step 48 = .ok (.aload_n 0, 1) := by decide +kernel
theorem dX5_step_49 : decode cX5_step 49 = .ok (.getfield 21, 3) := by decide +kernel
theorem dX5_step_52 : decode cX5_step 52 = .ok (.iload_n 1, 1) := by decide +kernel
theorem dX5_step_53 : decode cX5_step 53 = .ok (.iload_n 2, 1) := by decide +kernel
theorem dX5_step_54 : decode cX5_step 54 = .ok (.invokevirtual 149, 3) := by decide +kernel
theorem dX5_step_57 : decode cX5_step 57 = .ok (.iload_n 3, 1) := by decide +kernel
theorem dX5_step_58 : decode cX5_step 58 = .ok (.invokevirtual 157, 3) := by decide +kernel
theorem dX5_step_61 : decode cX5_step 61 = .ok (.ireturn, 1) := by decide +kernel
theorem dX5_rows_0 : decode cX5_rows 0 = .ok (.aload_n 0, 1) := by decide +kernel
theorem dX5_rows_1 : decode cX5_rows 1 = .ok (.invokevirtual 160, 3) := by decide +kernel
theorem dX5_rows_4 : decode cX5_rows 4 = .ok (.aload_n 0, 1) := by decide +kernel
theorem dX5_rows_5 : decode cX5_rows 5 = .ok (.getfield 30, 3) := by decide +kernel
theorem dX5_rows_8 : decode cX5_rows 8 = .ok (.getfield 163, 3) := by decide +kernel
theorem dX5_rows_11 : decode cX5_rows 11 = .ok (.ireturn, 1) := by decide +kernel
theorem dX5_row_0 : decode cX5_row 0 = .ok (.aload_n 0, 1) := by decide +kernel
theorem dX5_row_1 : decode cX5_row 1 = .ok (.invokevirtual 160, 3) := by decide +kernel
theorem dX5_row_4 : decode cX5_row 4 = .ok (.iload_n 1, 1) := by decide +kernel
theorem dX5_row_5 : decode cX5_row 5 = .ok (.ifCond .lt 14, 3) := by decide +kernel
theorem dX5_row_8 : decode cX5_row 8 = .ok (.iload_n 1, 1) := by decide +kernel
theorem dX5_row_9 : decode cX5_row 9 = .ok (.aload_n 0, 1) := by decide +kernel
theorem dX5_row_10 : decode cX5_row 10 = .ok (.getfield 30, 3) := by decide +kernel
theorem dX5_row_13 : decode cX5_row 13 = .ok (.getfield 163, 3) := by decide +kernel
theorem dX5_row_16 : decode cX5_row 16 = .ok (.if_icmp .lt 13, 3) := by decide +kernel
theorem dX5_row_19 : decode cX5_row 19 = .ok (.new 164, 3) := by decide +kernel
theorem dX5_row_22 : decode cX5_row 22 = .ok (.dup, 1) := by decide +kernel
theorem dX5_row_23 : decode cX5_row 23 = .ok (.ldc 166, 2) := by decide +kernel
theorem dX5_row_25 : decode cX5_row 25 = .ok (.invokespecial 168, 3) := by decide +kernel
theorem dX5_row_28 : decode cX5_row 28 = .ok (.athrow, 1) := by decide +kernel
theorem dX5_row_29 : decode cX5_row 29 = .ok (.aload_n 0, 1) := by decide +kernel
theorem dX5_row_30 : decode cX5_row 30 = .ok (.iload_n 2, 1) := by decide +kernel
theorem dX5_row_31 : decode cX5_row 31 = .ok (.invokevirtual 84, 3) := by decide +kernel
theorem dX5_row_34 : decode cX5_row 34 = .ok (.aload_n 0, 1) := by decide +kernel
theorem dX5_row_35 : decode cX5_row 35 = .ok (.getfield 30, 3) := by decide +kernel
theorem dX5_row_38 : decode cX5_row 38 = .ok (.iload_n 1, 1) := by decide +kernel
theorem dX5_row_39 : decode cX5_row 39 = .ok (.iload_n 2, 1) := by decide +kernel
theorem dX5_row_40 : decode cX5_row 40 = .ok (.invokevirtual 169, 3) := by decide +kernel
theorem dX5_row_43 : decode cX5_row 43 = .ok (.ireturn, 1) := by decide +kernel
theorem dX5_mostByRows_0 : decode cX5_mostByRows 0 = .ok (.aload_n 0, 1) := by decide +kernel
theorem dX5_mostByRows_1 : decode cX5_mostByRows 1 = .ok (.iload_n 1, 1) := by decide +kernel
theorem dX5_mostByRows_2 : decode cX5_mostByRows 2 = .ok (.invokevirtual 84, 3) := by decide +kernel
theorem dX5_mostByRows_5 : decode cX5_mostByRows 5 = .ok (.aload_n 0, 1) := by decide +kernel
theorem dX5_mostByRows_6 : decode cX5_mostByRows 6 = .ok (.invokevirtual 160, 3) := by decide +kernel
theorem dX5_mostByRows_9 : decode cX5_mostByRows 9 = .ok (.aload_n 0, 1) := by decide +kernel
theorem dX5_mostByRows_10 : decode cX5_mostByRows 10 = .ok (.iload_n 1, 1) := by decide +kernel
theorem dX5_mostByRows_11 : decode cX5_mostByRows 11 = .ok (.invokevirtual 172, 3) := by decide +kernel
theorem dX5_mostByRows_14 : decode cX5_mostByRows 14 = .ok (.ireturn, 1) := by decide +kernel
theorem dX5_rounds_0 : decode cX5_rounds 0 = .ok (.aload_n 0, 1) := by decide +kernel
theorem dX5_rounds_1 : decode cX5_rounds 1 = .ok (.invokevirtual 175, 3) := by decide +kernel
theorem dX5_rounds_4 : decode cX5_rounds 4 = .ok (.aload_n 0, 1) := by decide +kernel
theorem dX5_rounds_5 : decode cX5_rounds 5 = .ok (.getfield 34, 3) := by decide +kernel
theorem dX5_rounds_8 : decode cX5_rounds 8 = .ok (.getfield 163, 3) := by decide +kernel
theorem dX5_rounds_11 : decode cX5_rounds 11 = .ok (.ireturn, 1) := by decide +kernel
theorem dX5_round_0 : decode cX5_round 0 = .ok (.aload_n 0, 1) := by decide +kernel
theorem dX5_round_1 : decode cX5_round 1 = .ok (.invokevirtual 175, 3) := by decide +kernel
theorem dX5_round_4 : decode cX5_round 4 = .ok (.iload_n 1, 1) := by decide +kernel
theorem dX5_round_5 : decode cX5_round 5 = .ok (.ifCond .lt 14, 3) := by decide +kernel
theorem dX5_round_8 : decode cX5_round 8 = .ok (.iload_n 1, 1) := by decide +kernel
theorem dX5_round_9 : decode cX5_round 9 = .ok (.aload_n 0, 1) := by decide +kernel
theorem dX5_round_10 : decode cX5_round 10 = .ok (.getfield 34, 3) := by decide +kernel
theorem dX5_round_13 : decode cX5_round 13 = .ok (.getfield 163, 3) := by decide +kernel
theorem dX5_round_16 : decode cX5_round 16 = .ok (.if_icmp .lt 13, 3) := by decide +kernel
theorem dX5_round_19 : decode cX5_round 19 = .ok (.new 164, 3) := by decide +kernel
theorem dX5_round_22 : decode cX5_round 22 = .ok (.dup, 1) := by decide +kernel
theorem dX5_round_23 : decode cX5_round 23 = .ok (.ldc 178, 2) := by decide +kernel
theorem dX5_round_25 : decode cX5_round 25 = .ok (.invokespecial 168, 3) := by decide +kernel
theorem dX5_round_28 : decode cX5_round 28 = .ok (.athrow, 1) := by decide +kernel
theorem dX5_round_29 : decode cX5_round 29 = .ok (.aload_n 0, 1) := by decide +kernel
theorem dX5_round_30 : decode cX5_round 30 = .ok (.iload_n 2, 1) := by decide +kernel
theorem dX5_round_31 : decode cX5_round 31 = .ok (.invokevirtual 81, 3) := by decide +kernel
theorem dX5_round_34 : decode cX5_round 34 = .ok (.aload_n 0, 1) := by decide +kernel
theorem dX5_round_35 : decode cX5_round 35 = .ok (.getfield 34, 3) := by decide +kernel
theorem dX5_round_38 : decode cX5_round 38 = .ok (.iload_n 1, 1) := by decide +kernel
theorem dX5_round_39 : decode cX5_round 39 = .ok (.iload_n 2, 1) := by decide +kernel
theorem dX5_round_40 : decode cX5_round 40 = .ok (.invokevirtual 169, 3) := by decide +kernel
theorem dX5_round_43 : decode cX5_round 43 = .ok (.ireturn, 1) := by decide +kernel
theorem dX5_keeps_0 : decode cX5_keeps 0 = .ok (.aload_n 0, 1) := by decide +kernel
theorem dX5_keeps_1 : decode cX5_keeps 1 = .ok (.getfield 21, 3) := by decide +kernel
theorem dX5_keeps_4 : decode cX5_keeps 4 = .ok (.invokevirtual 117, 3) := by decide +kernel
theorem dX5_keeps_7 : decode cX5_keeps 7 = .ok (.aload_n 0, 1) := by decide +kernel
theorem dX5_keeps_8 : decode cX5_keeps 8 = .ok (.invokevirtual 160, 3) := by decide +kernel
theorem dX5_keeps_11 : decode cX5_keeps 11 = .ok (.aload_n 0, 1) := by decide +kernel
theorem dX5_keeps_12 : decode cX5_keeps 12 = .ok (.getfield 21, 3) := by decide +kernel
theorem dX5_keeps_15 : decode cX5_keeps 15 = .ok (.getfield 120, 3) := by decide +kernel
theorem dX5_keeps_18 : decode cX5_keeps 18 = .ok (.ifCond .ne 17, 3) := by decide +kernel
theorem dX5_keeps_21 : decode cX5_keeps 21 = .ok (.aload_n 0, 1) := by decide +kernel
theorem dX5_keeps_22 : decode cX5_keeps 22 = .ok (.invokevirtual 180, 3) := by decide +kernel
theorem dX5_keeps_25 : decode cX5_keeps 25 = .ok (.ifCond .eq 14, 3) := by decide +kernel
theorem dX5_keeps_28 : decode cX5_keeps 28 = .ok (.aload_n 0, 1) := by decide +kernel
theorem dX5_keeps_29 : decode cX5_keeps 29 = .ok (.invokevirtual 183, 3) := by decide +kernel
theorem dX5_keeps_32 : decode cX5_keeps 32 = .ok (.ifCond .eq 7, 3) := by decide +kernel
theorem dX5_keeps_35 : decode cX5_keeps 35 = .ok (.iconst 1, 1) := by decide +kernel
theorem dX5_keeps_36 : decode cX5_keeps 36 = .ok (.goto 4, 3) := by decide +kernel
theorem dX5_keeps_39 : decode cX5_keeps 39 = .ok (.iconst 0, 1) := by decide +kernel
theorem dX5_keeps_40 : decode cX5_keeps 40 = .ok (.ireturn, 1) := by decide +kernel
theorem dX5_siphons_0 : decode cX5_siphons 0 = .ok (.aload_n 0, 1) := by decide +kernel
theorem dX5_siphons_1 : decode cX5_siphons 1 = .ok (.getfield 40, 3) := by decide +kernel
theorem dX5_siphons_4 : decode cX5_siphons 4 = .ok (.invokevirtual 186, 3) := by decide +kernel
theorem dX5_siphons_7 : decode cX5_siphons 7 = .ok (.aload_n 0, 1) := by decide +kernel
theorem dX5_siphons_8 : decode cX5_siphons 8 = .ok (.getfield 40, 3) := by decide +kernel
theorem dX5_siphons_11 : decode cX5_siphons 11 = .ok (.getfield 187, 3) := by decide +kernel
theorem dX5_siphons_14 : decode cX5_siphons 14 = .ok (.ireturn, 1) := by decide +kernel
theorem dX5_siphon_0 : decode cX5_siphon 0 = .ok (.aload_n 0, 1) := by decide +kernel
theorem dX5_siphon_1 : decode cX5_siphon 1 = .ok (.getfield 40, 3) := by decide +kernel
theorem dX5_siphon_4 : decode cX5_siphon 4 = .ok (.invokevirtual 186, 3) := by decide +kernel
theorem dX5_siphon_7 : decode cX5_siphon 7 = .ok (.iload_n 1, 1) := by decide +kernel
theorem dX5_siphon_8 : decode cX5_siphon 8 = .ok (.ifCond .lt 14, 3) := by decide +kernel
theorem dX5_siphon_11 : decode cX5_siphon 11 = .ok (.iload_n 1, 1) := by decide +kernel
theorem dX5_siphon_12 : decode cX5_siphon 12 = .ok (.aload_n 0, 1) := by decide +kernel
theorem dX5_siphon_13 : decode cX5_siphon 13 = .ok (.getfield 40, 3) := by decide +kernel
theorem dX5_siphon_16 : decode cX5_siphon 16 = .ok (.getfield 187, 3) := by decide +kernel
theorem dX5_siphon_19 : decode cX5_siphon 19 = .ok (.if_icmp .lt 13, 3) := by decide +kernel
theorem dX5_siphon_22 : decode cX5_siphon 22 = .ok (.new 164, 3) := by decide +kernel
theorem dX5_siphon_25 : decode cX5_siphon 25 = .ok (.dup, 1) := by decide +kernel
theorem dX5_siphon_26 : decode cX5_siphon 26 = .ok (.ldc 188, 2) := by decide +kernel
theorem dX5_siphon_28 : decode cX5_siphon 28 = .ok (.invokespecial 168, 3) := by decide +kernel
theorem dX5_siphon_31 : decode cX5_siphon 31 = .ok (.athrow, 1) := by decide +kernel
theorem dX5_siphon_32 : decode cX5_siphon 32 = .ok (.aload_n 0, 1) := by decide +kernel
theorem dX5_siphon_33 : decode cX5_siphon 33 = .ok (.getfield 40, 3) := by decide +kernel
theorem dX5_siphon_36 : decode cX5_siphon 36 = .ok (.iload_n 1, 1) := by decide +kernel
theorem dX5_siphon_37 : decode cX5_siphon 37 = .ok (.invokevirtual 190, 3) := by decide +kernel
theorem dX5_siphon_40 : decode cX5_siphon 40 = .ok (.ireturn, 1) := by decide +kernel
theorem dX5_trap_0 : decode cX5_trap 0 = .ok (.iload_n 1, 1) := by decide +kernel
theorem dX5_trap_1 : decode cX5_trap 1 = .ok (.ifCond .lt 16, 3) := by decide +kernel
theorem dX5_trap_4 : decode cX5_trap 4 = .ok (.iload_n 1, 1) := by decide +kernel
theorem dX5_trap_5 : decode cX5_trap 5 = .ok (.iconst 1, 1) := by decide +kernel
theorem dX5_trap_6 : decode cX5_trap 6 = .ok (.aload_n 0, 1) := by decide +kernel
theorem dX5_trap_7 : decode cX5_trap 7 = .ok (.getfield 10, 3) := by decide +kernel
theorem dX5_trap_10 : decode cX5_trap 10 = .ok (.getfield 57, 3) := by decide +kernel
theorem dX5_trap_13 : decode cX5_trap 13 = .ok (.ishl, 1) := by decide +kernel
theorem dX5_trap_14 : decode cX5_trap 14 = .ok (.if_icmp .lt 13, 3) := by decide +kernel
theorem dX5_trap_17 : decode cX5_trap 17 = .ok (.new 87, 3) := by decide +kernel
theorem dX5_trap_20 : decode cX5_trap 20 = .ok (.dup, 1) := by decide +kernel
theorem dX5_trap_21 : decode cX5_trap 21 = .ok (.ldc 193, 2) := by decide +kernel
theorem dX5_trap_23 : decode cX5_trap 23 = .ok (.invokespecial 91, 3) := by decide +kernel
theorem dX5_trap_26 : decode cX5_trap 26 = .ok (.athrow, 1) := by decide +kernel
theorem dX5_trap_27 : decode cX5_trap 27 = .ok (.aload_n 0, 1) := by decide +kernel
theorem dX5_trap_28 : decode cX5_trap 28 = .ok (.getfield 40, 3) := by decide +kernel
theorem dX5_trap_31 : decode cX5_trap 31 = .ok (.invokevirtual 186, 3) := by decide +kernel
theorem dX5_trap_34 : decode cX5_trap 34 = .ok (.aload_n 0, 1) := by decide +kernel
theorem dX5_trap_35 : decode cX5_trap 35 = .ok (.getfield 40, 3) := by decide +kernel
theorem dX5_trap_38 : decode cX5_trap 38 = .ok (.iload_n 1, 1) := by decide +kernel
theorem dX5_trap_39 : decode cX5_trap 39 = .ok (.invokevirtual 195, 3) := by decide +kernel
theorem dX5_trap_42 : decode cX5_trap 42 = .ok (.ireturn, 1) := by decide +kernel
theorem dX5_isPromising_0 : decode cX5_isPromising 0 = .ok (.aload_n 0, 1) := by decide +kernel
theorem dX5_isPromising_1 : decode cX5_isPromising 1 = .ok (.getfield 40, 3) := by decide +kernel
theorem dX5_isPromising_4 : decode cX5_isPromising 4 = .ok (.invokevirtual 186, 3) := by decide +kernel
theorem dX5_isPromising_7 : decode cX5_isPromising 7 = .ok (.iconst 0, 1) := by decide +kernel
theorem dX5_isPromising_8 : decode cX5_isPromising 8 = .ok (.istore_n 1, 1) := by decide +kernel
theorem dX5_isPromising_9 : decode cX5_isPromising 9 = .ok (.iload_n 1, 1) := by decide +kernel
theorem dX5_isPromising_10 : decode cX5_isPromising 10 = .ok (.aload_n 0, 1) := by decide +kernel
theorem dX5_isPromising_11 : decode cX5_isPromising 11 = .ok (.getfield 40, 3) := by decide +kernel
theorem dX5_isPromising_14 : decode cX5_isPromising 14 = .ok (.getfield 187, 3) := by decide +kernel
theorem dX5_isPromising_17 : decode cX5_isPromising 17 = .ok (.if_icmp .ge 36, 3) := by decide +kernel
theorem dX5_isPromising_20 : decode cX5_isPromising 20 = .ok (.aload_n 0, 1) := by decide +kernel
theorem dX5_isPromising_21 : decode cX5_isPromising 21 = .ok (.getfield 10, 3) := by decide +kernel
theorem dX5_isPromising_24 : decode cX5_isPromising 24 = .ok (.aload_n 0, 1) := by decide +kernel
theorem dX5_isPromising_25 : decode cX5_isPromising 25 = .ok (.getfield 40, 3) := by decide +kernel
theorem dX5_isPromising_28 : decode cX5_isPromising 28 = .ok (.aload_n 0, 1) := by decide +kernel
theorem dX5_isPromising_29 : decode cX5_isPromising 29 = .ok (.getfield 40, 3) := by decide +kernel
theorem dX5_isPromising_32 : decode cX5_isPromising 32 = .ok (.iload_n 1, 1) := by decide +kernel
theorem dX5_isPromising_33 : decode cX5_isPromising 33 = .ok (.invokevirtual 190, 3) := by decide +kernel
theorem dX5_isPromising_36 : decode cX5_isPromising 36 = .ok (.invokevirtual 195, 3) := by decide +kernel
theorem dX5_isPromising_39 : decode cX5_isPromising 39 = .ok (.invokevirtual 198, 3) := by decide +kernel
theorem dX5_isPromising_42 : decode cX5_isPromising 42 = .ok (.ifCond .ne 5, 3) := by decide +kernel
theorem dX5_isPromising_45 : decode cX5_isPromising 45 = .ok (.iconst 0, 1) := by decide +kernel
theorem dX5_isPromising_46 : decode cX5_isPromising 46 = .ok (.ireturn, 1) := by decide +kernel
theorem dX5_isPromising_47 : decode cX5_isPromising 47 = .ok (.iinc 1 1, 3) := by decide +kernel
theorem dX5_isPromising_50 : decode cX5_isPromising 50 = .ok (.goto (-41), 3) := by decide +kernel
theorem dX5_isPromising_53 : decode cX5_isPromising 53 = .ok (.iconst 1, 1) := by decide +kernel
theorem dX5_isPromising_54 : decode cX5_isPromising 54 = .ok (.ireturn, 1) := by decide +kernel
theorem dX5_log_0 : decode cX5_log 0 = .ok (.aload_n 0, 1) := by decide +kernel
theorem dX5_log_1 : decode cX5_log 1 = .ok (.iload_n 1, 1) := by decide +kernel
theorem dX5_log_2 : decode cX5_log 2 = .ok (.invokevirtual 81, 3) := by decide +kernel
theorem dX5_log_5 : decode cX5_log 5 = .ok (.aload_n 0, 1) := by decide +kernel
theorem dX5_log_6 : decode cX5_log 6 = .ok (.getfield 49, 3) := by decide +kernel
theorem dX5_log_9 : decode cX5_log 9 = .ok (.getfield 202, 3) := by decide +kernel
theorem dX5_log_12 : decode cX5_log 12 = .ok (.bipush 10, 2) := by decide +kernel
theorem dX5_log_14 : decode cX5_log 14 = .ok (.if_icmp .lt 13, 3) := by decide +kernel
theorem dX5_log_17 : decode cX5_log 17 = .ok (.new 61, 3) := by decide +kernel
theorem dX5_log_20 : decode cX5_log 20 = .ok (.dup, 1) := by decide +kernel
theorem dX5_log_21 : decode cX5_log 21 = .ok (.ldc 205, 2) := by decide +kernel
theorem dX5_log_23 : decode cX5_log 23 = .ok (.invokespecial 65, 3) := by decide +kernel
theorem dX5_log_26 : decode cX5_log 26 = .ok (.athrow, 1) := by decide +kernel
theorem dX5_log_27 : decode cX5_log 27 = .ok (.aload_n 0, 1) := by decide +kernel
theorem dX5_log_28 : decode cX5_log 28 = .ok (.getfield 49, 3) := by decide +kernel
theorem dX5_log_31 : decode cX5_log 31 = .ok (.iload_n 1, 1) := by decide +kernel
theorem dX5_log_32 : decode cX5_log 32 = .ok (.invokevirtual 207, 3) := by decide +kernel
theorem dX5_log_35 : decode cX5_log 35 = .ok (.ireturn, 1) := by decide +kernel
theorem dX5_blank_0 : decode cX5_blank 0 = .ok (.aload_n 0, 1) := by decide +kernel
theorem dX5_blank_1 : decode cX5_blank 1 = .ok (.getfield 49, 3) := by decide +kernel
theorem dX5_blank_4 : decode cX5_blank 4 = .ok (.invokevirtual 210, 3) := by decide +kernel
theorem dX5_blank_7 : decode cX5_blank 7 = .ok (.ireturn, 1) := by decide +kernel
theorem dX5_goes_0 : decode cX5_goes 0 = .ok (.aload_n 0, 1) := by decide +kernel
theorem dX5_goes_1 : decode cX5_goes 1 = .ok (.getfield 49, 3) := by decide +kernel
theorem dX5_goes_4 : decode cX5_goes 4 = .ok (.invokevirtual 213, 3) := by decide +kernel
theorem dX5_goes_7 : decode cX5_goes 7 = .ok (.ireturn, 1) := by decide +kernel
theorem dX5_cost_0 : decode cX5_cost 0 = .ok (.aload_n 0, 1) := by decide +kernel
theorem dX5_cost_1 : decode cX5_cost 1 = .ok (.getfield 21, 3) := by decide +kernel
theorem dX5_cost_4 : decode cX5_cost 4 = .ok (.invokevirtual 117, 3) := by decide +kernel
theorem dX5_cost_7 : decode cX5_cost 7 = .ok (.aload_n 0, 1) := by decide +kernel
theorem dX5_cost_8 : decode cX5_cost 8 = .ok (.getfield 21, 3) := by decide +kernel
theorem dX5_cost_11 : decode cX5_cost 11 = .ok (.getfield 120, 3) := by decide +kernel
theorem dX5_cost_14 : decode cX5_cost 14 = .ok (.ifCond .eq 7, 3) := by decide +kernel
theorem dX5_cost_17 : decode cX5_cost 17 = .ok (.iconst (-1), 1) := by decide +kernel
theorem dX5_cost_18 : decode cX5_cost 18 = .ok (.goto 10, 3) := by decide +kernel
theorem dX5_cost_21 : decode cX5_cost 21 = .ok (.aload_n 0, 1) := by decide +kernel
theorem dX5_cost_22 : decode cX5_cost 22 = .ok (.getfield 49, 3) := by decide +kernel
theorem dX5_cost_25 : decode cX5_cost 25 = .ok (.invokevirtual 216, 3) := by decide +kernel
theorem dX5_cost_28 : decode cX5_cost 28 = .ok (.ireturn, 1) := by decide +kernel
theorem dX5_needPlace_0 : decode cX5_needPlace 0 = .ok (.iload_n 1, 1) := by decide +kernel
theorem dX5_needPlace_1 : decode cX5_needPlace 1 = .ok (.ifCond .lt 14, 3) := by decide +kernel
theorem dX5_needPlace_4 : decode cX5_needPlace 4 = .ok (.iload_n 1, 1) := by decide +kernel
theorem dX5_needPlace_5 : decode cX5_needPlace 5 = .ok (.aload_n 0, 1) := by decide +kernel
theorem dX5_needPlace_6 : decode cX5_needPlace 6 = .ok (.getfield 10, 3) := by decide +kernel
theorem dX5_needPlace_9 : decode cX5_needPlace 9 = .ok (.getfield 57, 3) := by decide +kernel
theorem dX5_needPlace_12 : decode cX5_needPlace 12 = .ok (.if_icmp .lt 13, 3) := by decide +kernel
theorem dX5_needPlace_15 : decode cX5_needPlace 15 = .ok (.new 164, 3) := by decide +kernel
theorem dX5_needPlace_18 : decode cX5_needPlace 18 = .ok (.dup, 1) := by decide +kernel
theorem dX5_needPlace_19 : decode cX5_needPlace 19 = .ok (.ldc 219, 2) := by decide +kernel
theorem dX5_needPlace_21 : decode cX5_needPlace 21 = .ok (.invokespecial 168, 3) := by decide +kernel
theorem dX5_needPlace_24 : decode cX5_needPlace 24 = .ok (.athrow, 1) := by decide +kernel
theorem dX5_needPlace_25 : decode cX5_needPlace 25 = .ok (.return_, 1) := by decide +kernel
theorem dX5_needFiring_0 : decode cX5_needFiring 0 = .ok (.iload_n 1, 1) := by decide +kernel
theorem dX5_needFiring_1 : decode cX5_needFiring 1 = .ok (.ifCond .lt 14, 3) := by decide +kernel
theorem dX5_needFiring_4 : decode cX5_needFiring 4 = .ok (.iload_n 1, 1) := by decide +kernel
theorem dX5_needFiring_5 : decode cX5_needFiring 5 = .ok (.aload_n 0, 1) := by decide +kernel
theorem dX5_needFiring_6 : decode cX5_needFiring 6 = .ok (.getfield 10, 3) := by decide +kernel
theorem dX5_needFiring_9 : decode cX5_needFiring 9 = .ok (.getfield 72, 3) := by decide +kernel
theorem dX5_needFiring_12 : decode cX5_needFiring 12 = .ok (.if_icmp .lt 13, 3) := by decide +kernel
theorem dX5_needFiring_15 : decode cX5_needFiring 15 = .ok (.new 164, 3) := by decide +kernel
theorem dX5_needFiring_18 : decode cX5_needFiring 18 = .ok (.dup, 1) := by decide +kernel
theorem dX5_needFiring_19 : decode cX5_needFiring 19 = .ok (.ldc 221, 2) := by decide +kernel
theorem dX5_needFiring_21 : decode cX5_needFiring 21 = .ok (.invokespecial 168, 3) := by decide +kernel
theorem dX5_needFiring_24 : decode cX5_needFiring 24 = .ok (.athrow, 1) := by decide +kernel
theorem dX5_needFiring_25 : decode cX5_needFiring 25 = .ok (.return_, 1) := by decide +kernel
theorem dX5_needTokens_0 : decode cX5_needTokens 0 = .ok (.iload_n 0, 1) := by decide +kernel
theorem dX5_needTokens_1 : decode cX5_needTokens 1 = .ok (.ifCond .lt 9, 3) := by decide +kernel
theorem dX5_needTokens_4 : decode cX5_needTokens 4 = .ok (.iload_n 0, 1) := by decide +kernel
theorem dX5_needTokens_5 : decode cX5_needTokens 5 = .ok (.bipush 99, 2) := by decide +kernel
theorem dX5_needTokens_7 : decode cX5_needTokens 7 = .ok (.if_icmp .le 13, 3) := by decide +kernel
theorem dX5_needTokens_10 : decode cX5_needTokens 10 = .ok (.new 87, 3) := by decide +kernel
theorem dX5_needTokens_13 : decode cX5_needTokens 13 = .ok (.dup, 1) := by decide +kernel
theorem dX5_needTokens_14 : decode cX5_needTokens 14 = .ok (.ldc 223, 2) := by decide +kernel
theorem dX5_needTokens_16 : decode cX5_needTokens 16 = .ok (.invokespecial 91, 3) := by decide +kernel
theorem dX5_needTokens_19 : decode cX5_needTokens 19 = .ok (.athrow, 1) := by decide +kernel
theorem dX5_needTokens_20 : decode cX5_needTokens 20 = .ok (.return_, 1) := by decide +kernel
theorem dX5_refreshRows_0 : decode cX5_refreshRows 0 = .ok (.aload_n 0, 1) := by decide +kernel
theorem dX5_refreshRows_1 : decode cX5_refreshRows 1 = .ok (.getfield 30, 3) := by decide +kernel
theorem dX5_refreshRows_4 : decode cX5_refreshRows 4 = .ok (.getfield 225, 3) := by decide +kernel
theorem dX5_refreshRows_7 : decode cX5_refreshRows 7 = .ok (.aload_n 0, 1) := by decide +kernel
theorem dX5_refreshRows_8 : decode cX5_refreshRows 8 = .ok (.getfield 10, 3) := by decide +kernel
theorem dX5_refreshRows_11 : decode cX5_refreshRows 11 = .ok (.getfield 228, 3) := by decide +kernel
theorem dX5_refreshRows_14 : decode cX5_refreshRows 14 = .ok (.if_icmp .ne 4, 3) := by decide +kernel
theorem dX5_refreshRows_17 : decode cX5_refreshRows 17 = .ok (.return_, 1) := by decide +kernel
theorem dX5_refreshRows_18 : decode cX5_refreshRows 18 = .ok (.aload_n 0, 1) := by decide +kernel
theorem dX5_refreshRows_19 : decode cX5_refreshRows 19 = .ok (.getfield 30, 3) := by decide +kernel
theorem dX5_refreshRows_22 : decode cX5_refreshRows 22 = .ok (.aload_n 0, 1) := by decide +kernel
theorem dX5_refreshRows_23 : decode cX5_refreshRows 23 = .ok (.getfield 10, 3) := by decide +kernel
theorem dX5_refreshRows_26 : decode cX5_refreshRows 26 = .ok (.getfield 228, 3) := by decide +kernel
theorem dX5_refreshRows_29 : decode cX5_refreshRows 29 = .ok (.putfield 225, 3) := by decide +kernel
theorem dX5_refreshRows_32 : decode cX5_refreshRows 32 = .ok (.aload_n 0, 1) := by decide +kernel
theorem dX5_refreshRows_33 : decode cX5_refreshRows 33 = .ok (.getfield 30, 3) := by decide +kernel
theorem dX5_refreshRows_36 : decode cX5_refreshRows 36 = .ok (.aload_n 0, 1) := by decide +kernel
theorem dX5_refreshRows_37 : decode cX5_refreshRows 37 = .ok (.getfield 10, 3) := by decide +kernel
theorem dX5_refreshRows_40 : decode cX5_refreshRows 40 = .ok (.getfield 57, 3) := by decide +kernel
theorem dX5_refreshRows_43 : decode cX5_refreshRows 43 = .ok (.invokevirtual 229, 3) := by decide +kernel
theorem dX5_refreshRows_46 : decode cX5_refreshRows 46 = .ok (.iconst 0, 1) := by decide +kernel
theorem dX5_refreshRows_47 : decode cX5_refreshRows 47 = .ok (.istore_n 1, 1) := by decide +kernel
theorem dX5_refreshRows_48 : decode cX5_refreshRows 48 = .ok (.iload_n 1, 1) := by decide +kernel
theorem dX5_refreshRows_49 : decode cX5_refreshRows 49 = .ok (.aload_n 0, 1) := by decide +kernel
theorem dX5_refreshRows_50 : decode cX5_refreshRows 50 = .ok (.getfield 10, 3) := by decide +kernel
theorem dX5_refreshRows_53 : decode cX5_refreshRows 53 = .ok (.getfield 57, 3) := by decide +kernel
theorem dX5_refreshRows_56 : decode cX5_refreshRows 56 = .ok (.if_icmp .ge 36, 3) := by decide +kernel
theorem dX5_refreshRows_59 : decode cX5_refreshRows 59 = .ok (.aload_n 0, 1) := by decide +kernel
theorem dX5_refreshRows_60 : decode cX5_refreshRows 60 = .ok (.getfield 10, 3) := by decide +kernel
theorem dX5_refreshRows_63 : decode cX5_refreshRows 63 = .ok (.iload_n 1, 1) := by decide +kernel
theorem dX5_refreshRows_64 : decode cX5_refreshRows 64 = .ok (.invokevirtual 232, 3) := by decide +kernel
theorem dX5_refreshRows_67 : decode cX5_refreshRows 67 = .ok (.ifCond .ne 19, 3) := by decide +kernel
theorem dX5_refreshRows_70 : decode cX5_refreshRows 70 = .ok (.aload_n 0, 1) := by decide +kernel
theorem dX5_refreshRows_71 : decode cX5_refreshRows 71 = .ok (.getfield 30, 3) := by decide +kernel
theorem dX5_refreshRows_74 : decode cX5_refreshRows 74 = .ok (.iload_n 1, 1) := by decide +kernel
theorem dX5_refreshRows_75 : decode cX5_refreshRows 75 = .ok (.aload_n 0, 1) := by decide +kernel
theorem dX5_refreshRows_76 : decode cX5_refreshRows 76 = .ok (.getfield 10, 3) := by decide +kernel
theorem dX5_refreshRows_79 : decode cX5_refreshRows 79 = .ok (.iload_n 1, 1) := by decide +kernel
theorem dX5_refreshRows_80 : decode cX5_refreshRows 80 = .ok (.invokevirtual 235, 3) := by decide +kernel
theorem dX5_refreshRows_83 : decode cX5_refreshRows 83 = .ok (.invokevirtual 239, 3) := by decide +kernel
theorem dX5_refreshRows_86 : decode cX5_refreshRows 86 = .ok (.iinc 1 1, 3) := by decide +kernel
theorem dX5_refreshRows_89 : decode cX5_refreshRows 89 = .ok (.goto (-41), 3) := by decide +kernel
theorem dX5_refreshRows_92 : decode cX5_refreshRows 92 = .ok (.aload_n 0, 1) := by decide +kernel
theorem dX5_refreshRows_93 : decode cX5_refreshRows 93 = .ok (.getfield 30, 3) := by decide +kernel
theorem dX5_refreshRows_96 : decode cX5_refreshRows 96 = .ok (.invokevirtual 243, 3) := by decide +kernel
theorem dX5_refreshRows_99 : decode cX5_refreshRows 99 = .ok (.return_, 1) := by decide +kernel
theorem dX5_refreshRounds_0 : decode cX5_refreshRounds 0 = .ok (.aload_n 0, 1) := by decide +kernel
theorem dX5_refreshRounds_1 : decode cX5_refreshRounds 1 = .ok (.getfield 34, 3) := by decide +kernel
theorem dX5_refreshRounds_4 : decode cX5_refreshRounds 4 = .ok (.getfield 225, 3) := by decide +kernel
theorem dX5_refreshRounds_7 : decode cX5_refreshRounds 7 = .ok (.aload_n 0, 1) := by decide +kernel
theorem dX5_refreshRounds_8 : decode cX5_refreshRounds 8 = .ok (.getfield 10, 3) := by decide +kernel
theorem dX5_refreshRounds_11 : decode cX5_refreshRounds 11 = .ok (.getfield 228, 3) := by decide +kernel
theorem dX5_refreshRounds_14 : decode cX5_refreshRounds 14 = .ok (.if_icmp .ne 4, 3) := by decide +kernel
theorem dX5_refreshRounds_17 : decode cX5_refreshRounds 17 = .ok (.return_, 1) := by decide +kernel
theorem dX5_refreshRounds_18 : decode cX5_refreshRounds 18 = .ok (.aload_n 0, 1) := by decide +kernel
theorem dX5_refreshRounds_19 : decode cX5_refreshRounds 19 = .ok (.getfield 34, 3) := by decide +kernel
theorem dX5_refreshRounds_22 : decode cX5_refreshRounds 22 = .ok (.aload_n 0, 1) := by decide +kernel
theorem dX5_refreshRounds_23 : decode cX5_refreshRounds 23 = .ok (.getfield 10, 3) := by decide +kernel
theorem dX5_refreshRounds_26 : decode cX5_refreshRounds 26 = .ok (.getfield 228, 3) := by decide +kernel
theorem dX5_refreshRounds_29 : decode cX5_refreshRounds 29 = .ok (.putfield 225, 3) := by decide +kernel
theorem dX5_refreshRounds_32 : decode cX5_refreshRounds 32 = .ok (.aload_n 0, 1) := by decide +kernel
theorem dX5_refreshRounds_33 : decode cX5_refreshRounds 33 = .ok (.getfield 34, 3) := by decide +kernel
theorem dX5_refreshRounds_36 : decode cX5_refreshRounds 36 = .ok (.aload_n 0, 1) := by decide +kernel
theorem dX5_refreshRounds_37 : decode cX5_refreshRounds 37 = .ok (.getfield 10, 3) := by decide +kernel
theorem dX5_refreshRounds_40 : decode cX5_refreshRounds 40 = .ok (.getfield 72, 3) := by decide +kernel
theorem dX5_refreshRounds_43 : decode cX5_refreshRounds 43 = .ok (.invokevirtual 229, 3) := by decide +kernel
theorem dX5_refreshRounds_46 : decode cX5_refreshRounds 46 = .ok (.iconst 0, 1) := by decide +kernel
theorem dX5_refreshRounds_47 : decode cX5_refreshRounds 47 = .ok (.istore_n 1, 1) := by decide +kernel
theorem dX5_refreshRounds_48 : decode cX5_refreshRounds 48 = .ok (.iload_n 1, 1) := by decide +kernel
theorem dX5_refreshRounds_49 : decode cX5_refreshRounds 49 = .ok (.aload_n 0, 1) := by decide +kernel
theorem dX5_refreshRounds_50 : decode cX5_refreshRounds 50 = .ok (.getfield 10, 3) := by decide +kernel
theorem dX5_refreshRounds_53 : decode cX5_refreshRounds 53 = .ok (.getfield 72, 3) := by decide +kernel
theorem dX5_refreshRounds_56 : decode cX5_refreshRounds 56 = .ok (.if_icmp .ge 37, 3) := by decide +kernel
theorem dX5_refreshRounds_59 : decode cX5_refreshRounds 59 = .ok (.aload_n 0, 1) := by decide +kernel
theorem dX5_refreshRounds_60 : decode cX5_refreshRounds 60 = .ok (.getfield 10, 3) := by decide +kernel
theorem dX5_refreshRounds_63 : decode cX5_refreshRounds 63 = .ok (.iconst 4, 1) := by decide +kernel
theorem dX5_refreshRounds_64 : decode cX5_refreshRounds 64 = .ok (.iload_n 1, 1) := by decide +kernel
theorem dX5_refreshRounds_65 : decode cX5_refreshRounds 65 = .ok (.invokevirtual 246, 3) := by decide +kernel
theorem dX5_refreshRounds_68 : decode cX5_refreshRounds 68 = .ok (.ifCond .ne 19, 3) := by decide +kernel
theorem dX5_refreshRounds_71 : decode cX5_refreshRounds 71 = .ok (.aload_n 0, 1) := by decide +kernel
theorem dX5_refreshRounds_72 : decode cX5_refreshRounds 72 = .ok (.getfield 34, 3) := by decide +kernel
theorem dX5_refreshRounds_75 : decode cX5_refreshRounds 75 = .ok (.iload_n 1, 1) := by decide +kernel
theorem dX5_refreshRounds_76 : decode cX5_refreshRounds 76 = .ok (.aload_n 0, 1) := by decide +kernel
theorem dX5_refreshRounds_77 : decode cX5_refreshRounds 77 = .ok (.getfield 10, 3) := by decide +kernel
theorem dX5_refreshRounds_80 : decode cX5_refreshRounds 80 = .ok (.iload_n 1, 1) := by decide +kernel
theorem dX5_refreshRounds_81 : decode cX5_refreshRounds 81 = .ok (.invokevirtual 249, 3) := by decide +kernel
theorem dX5_refreshRounds_84 : decode cX5_refreshRounds 84 = .ok (.invokevirtual 239, 3) := by decide +kernel
theorem dX5_refreshRounds_87 : decode cX5_refreshRounds 87 = .ok (.iinc 1 1, 3) := by decide +kernel
theorem dX5_refreshRounds_90 : decode cX5_refreshRounds 90 = .ok (.goto (-42), 3) := by decide +kernel
theorem dX5_refreshRounds_93 : decode cX5_refreshRounds 93 = .ok (.aload_n 0, 1) := by decide +kernel
theorem dX5_refreshRounds_94 : decode cX5_refreshRounds 94 = .ok (.getfield 34, 3) := by decide +kernel
theorem dX5_refreshRounds_97 : decode cX5_refreshRounds 97 = .ok (.invokevirtual 243, 3) := by decide +kernel
theorem dX5_refreshRounds_100 : decode cX5_refreshRounds 100 = .ok (.return_, 1) := by decide +kernel
theorem dX5_sumOfRow_0 : decode cX5_sumOfRow 0 = .ok (.iconst 0, 1) := by decide +kernel
theorem dX5_sumOfRow_1 : decode cX5_sumOfRow 1 = .ok (.istore 4, 2) := by decide +kernel
theorem dX5_sumOfRow_3 : decode cX5_sumOfRow 3 = .ok (.iconst 0, 1) := by decide +kernel
theorem dX5_sumOfRow_4 : decode cX5_sumOfRow 4 = .ok (.istore 5, 2) := by decide +kernel
theorem dX5_sumOfRow_6 : decode cX5_sumOfRow 6 = .ok (.iload 5, 2) := by decide +kernel
theorem dX5_sumOfRow_8 : decode cX5_sumOfRow 8 = .ok (.aload_n 0, 1) := by decide +kernel
theorem dX5_sumOfRow_9 : decode cX5_sumOfRow 9 = .ok (.getfield 10, 3) := by decide +kernel
theorem dX5_sumOfRow_12 : decode cX5_sumOfRow 12 = .ok (.getfield 57, 3) := by decide +kernel
theorem dX5_sumOfRow_15 : decode cX5_sumOfRow 15 = .ok (.if_icmp .ge 31, 3) := by decide +kernel
theorem dX5_sumOfRow_18 : decode cX5_sumOfRow 18 = .ok (.iload 4, 2) := by decide +kernel
theorem dX5_sumOfRow_20 : decode cX5_sumOfRow 20 = .ok (.aload_n 0, 1) := by decide +kernel
theorem dX5_sumOfRow_21 : decode cX5_sumOfRow 21 = .ok (.getfield 30, 3) := by decide +kernel
theorem dX5_sumOfRow_24 : decode cX5_sumOfRow 24 = .ok (.iload_n 1, 1) := by decide +kernel
theorem dX5_sumOfRow_25 : decode cX5_sumOfRow 25 = .ok (.iload 5, 2) := by decide +kernel
theorem dX5_sumOfRow_27 : decode cX5_sumOfRow 27 = .ok (.invokevirtual 169, 3) := by decide +kernel
theorem dX5_sumOfRow_30 : decode cX5_sumOfRow 30 = .ok (.lload_n 2, 1) := by decide +kernel
theorem dX5_sumOfRow_31 : decode cX5_sumOfRow 31 = .ok (.iload 5, 2) := by decide +kernel
theorem dX5_sumOfRow_33 : decode cX5_sumOfRow 33 = .ok (.invokestatic 102, 3) := by decide +kernel
theorem dX5_sumOfRow_36 : decode cX5_sumOfRow 36 = .ok (.imul, 1) := by decide +kernel
theorem dX5_sumOfRow_37 : decode cX5_sumOfRow 37 = .ok (.iadd, 1) := by decide +kernel
theorem dX5_sumOfRow_38 : decode cX5_sumOfRow 38 = .ok (.istore 4, 2) := by decide +kernel
theorem dX5_sumOfRow_40 : decode cX5_sumOfRow 40 = .ok (.iinc 5 1, 3) := by decide +kernel
theorem dX5_sumOfRow_43 : decode cX5_sumOfRow 43 = .ok (.goto (-37), 3) := by decide +kernel
theorem dX5_sumOfRow_46 : decode cX5_sumOfRow 46 = .ok (.iload 4, 2) := by decide +kernel
theorem dX5_sumOfRow_48 : decode cX5_sumOfRow 48 = .ok (.ireturn, 1) := by decide +kernel
theorem dX5_boundByRows_0 : decode cX5_boundByRows 0 = .ok (.iconst (-1), 1) := by decide +kernel
theorem dX5_boundByRows_1 : decode cX5_boundByRows 1 = .ok (.istore_n 2, 1) := by decide +kernel
theorem dX5_boundByRows_2 : decode cX5_boundByRows 2 = .ok (.iconst 0, 1) := by decide +kernel
theorem dX5_boundByRows_3 : decode cX5_boundByRows 3 = .ok (.istore_n 3, 1) := by decide +kernel
theorem dX5_boundByRows_4 : decode cX5_boundByRows 4 = .ok (.iload_n 3, 1) := by decide +kernel
theorem dX5_boundByRows_5 : decode cX5_boundByRows 5 = .ok (.aload_n 0, 1) := by decide +kernel
theorem dX5_boundByRows_6 : decode cX5_boundByRows 6 = .ok (.getfield 30, 3) := by decide +kernel
theorem dX5_boundByRows_9 : decode cX5_boundByRows 9 = .ok (.getfield 163, 3) := by decide +kernel
theorem dX5_boundByRows_12 : decode cX5_boundByRows 12 = .ok (.if_icmp .ge 59, 3) := by decide +kernel
theorem dX5_boundByRows_15 : decode cX5_boundByRows 15 = .ok (.aload_n 0, 1) := by decide +kernel
theorem dX5_boundByRows_16 : decode cX5_boundByRows 16 = .ok (.getfield 30, 3) := by decide +kernel
theorem dX5_boundByRows_19 : decode cX5_boundByRows 19 = .ok (.iload_n 3, 1) := by decide +kernel
theorem dX5_boundByRows_20 : decode cX5_boundByRows 20 = .ok (.iload_n 1, 1) := by decide +kernel
theorem dX5_boundByRows_21 : decode cX5_boundByRows 21 = .ok (.invokevirtual 169, 3) := by decide +kernel
theorem dX5_boundByRows_24 : decode cX5_boundByRows 24 = .ok (.istore 4, 2) := by decide +kernel
theorem dX5_boundByRows_26 : decode cX5_boundByRows 26 = .ok (.iload 4, 2) := by decide +kernel
theorem dX5_boundByRows_28 : decode cX5_boundByRows 28 = .ok (.ifCond .le 37, 3) := by decide +kernel
theorem dX5_boundByRows_31 : decode cX5_boundByRows 31 = .ok (.aload_n 0, 1) := by decide +kernel
theorem dX5_boundByRows_32 : decode cX5_boundByRows 32 = .ok (.iload_n 3, 1) := by decide +kernel
theorem dX5_boundByRows_33 : decode cX5_boundByRows 33 = .ok (.aload_n 0, 1) := by decide +kernel
theorem dX5_boundByRows_34 : decode cX5_boundByRows 34 = .ok (.getfield 10, 3) := by decide +kernel
theorem dX5_boundByRows_37 : decode cX5_boundByRows 37 = .ok (.getfield 98, 3) := by decide +kernel
theorem dX5_boundByRows_40 : decode cX5_boundByRows 40 = .ok (.invokevirtual 252, 3) := by decide +kernel
theorem dX5_boundByRows_43 : decode cX5_boundByRows 43 = .ok (.iload 4, 2) := by decide +kernel
theorem dX5_boundByRows_45 : decode cX5_boundByRows 45 = .ok (.idiv, 1) := by decide +kernel
theorem dX5_boundByRows_46 : decode cX5_boundByRows 46 = .ok (.istore 5, 2) := by decide +kernel
theorem dX5_boundByRows_48 : decode cX5_boundByRows 48 = .ok (.iload_n 2, 1) := by decide +kernel
theorem dX5_boundByRows_49 : decode cX5_boundByRows 49 = .ok (.iconst (-1), 1) := by decide +kernel
theorem dX5_boundByRows_50 : decode cX5_boundByRows 50 = .ok (.if_icmp .ne 8, 3) := by decide +kernel
theorem dX5_boundByRows_53 : decode cX5_boundByRows 53 = .ok (.iload 5, 2) := by decide +kernel
theorem dX5_boundByRows_55 : decode cX5_boundByRows 55 = .ok (.goto 9, 3) := by decide +kernel
theorem dX5_boundByRows_58 : decode cX5_boundByRows 58 = .ok (.iload_n 2, 1) := by decide +kernel
theorem dX5_boundByRows_59 : decode cX5_boundByRows 59 = .ok (.iload 5, 2) := by decide +kernel
theorem dX5_boundByRows_61 : decode cX5_boundByRows 61 = .ok (.invokestatic 256, 3) := by decide +kernel
theorem dX5_boundByRows_64 : decode cX5_boundByRows 64 = .ok (.istore_n 2, 1) := by decide +kernel
theorem dX5_boundByRows_65 : decode cX5_boundByRows 65 = .ok (.iinc 3 1, 3) := by decide +kernel
theorem dX5_boundByRows_68 : decode cX5_boundByRows 68 = .ok (.goto (-64), 3) := by decide +kernel
theorem dX5_boundByRows_71 : decode cX5_boundByRows 71 = .ok (.iload_n 2, 1) := by decide +kernel
theorem dX5_boundByRows_72 : decode cX5_boundByRows 72 = .ok (.ireturn, 1) := by decide +kernel
theorem dX5_rowsKeepTheirSums_0 : decode cX5_rowsKeepTheirSums 0 = .ok (.iconst 0, 1) := by decide +kernel
theorem dX5_rowsKeepTheirSums_1 : decode cX5_rowsKeepTheirSums 1 = .ok (.istore_n 1, 1) := by decide +kernel
theorem dX5_rowsKeepTheirSums_2 : decode cX5_rowsKeepTheirSums 2 = .ok (.iload_n 1, 1) := by decide +kernel
theorem dX5_rowsKeepTheirSums_3 : decode cX5_rowsKeepTheirSums 3 = .ok (.aload_n 0, 1) := by decide +kernel
theorem dX5_rowsKeepTheirSums_4 : decode cX5_rowsKeepTheirSums 4 = .ok (.getfield 30, 3) := by decide +kernel
theorem dX5_rowsKeepTheirSums_7 : decode cX5_rowsKeepTheirSums 7 = .ok (.getfield 163, 3) := by decide +kernel
theorem dX5_rowsKeepTheirSums_10 : decode cX5_rowsKeepTheirSums 10 = .ok (.if_icmp .ge 60, 3) := by decide +kernel
theorem dX5_rowsKeepTheirSums_13 : decode cX5_rowsKeepTheirSums 13 = .ok (.aload_n 0, 1) := by decide +kernel
theorem dX5_rowsKeepTheirSums_14 : decode cX5_rowsKeepTheirSums 14 = .ok (.iload_n 1, 1) := by decide +kernel
theorem dX5_rowsKeepTheirSums_15 : decode cX5_rowsKeepTheirSums 15 = .ok (.aload_n 0, 1) := by decide +kernel
theorem dX5_rowsKeepTheirSums_16 : decode cX5_rowsKeepTheirSums 16 = .ok (.getfield 10, 3) := by decide +kernel
theorem dX5_rowsKeepTheirSums_19 : decode cX5_rowsKeepTheirSums 19 = .ok (.getfield 98, 3) := by decide +kernel
theorem dX5_rowsKeepTheirSums_22 : decode cX5_rowsKeepTheirSums 22 = .ok (.invokevirtual 252, 3) := by decide +kernel
theorem dX5_rowsKeepTheirSums_25 : decode cX5_rowsKeepTheirSums 25 = .ok (.istore_n 2, 1) := by decide +kernel
theorem dX5_rowsKeepTheirSums_26 : decode cX5_rowsKeepTheirSums 26 = .ok (.iconst 0, 1) := by decide +kernel
theorem dX5_rowsKeepTheirSums_27 : decode cX5_rowsKeepTheirSums 27 = .ok (.istore_n 3, 1) := by decide +kernel
theorem dX5_rowsKeepTheirSums_28 : decode cX5_rowsKeepTheirSums 28 = .ok (.iload_n 3, 1) := by decide +kernel
theorem dX5_rowsKeepTheirSums_29 : decode cX5_rowsKeepTheirSums 29 = .ok (.aload_n 0, 1) := by decide +kernel
theorem dX5_rowsKeepTheirSums_30 : decode cX5_rowsKeepTheirSums 30 = .ok (.getfield 21, 3) := by decide +kernel
theorem dX5_rowsKeepTheirSums_33 : decode cX5_rowsKeepTheirSums 33 = .ok (.getfield 124, 3) := by decide +kernel
theorem dX5_rowsKeepTheirSums_36 : decode cX5_rowsKeepTheirSums 36 = .ok (.if_icmp .ge 28, 3) := by decide +kernel
theorem dX5_rowsKeepTheirSums_39 : decode cX5_rowsKeepTheirSums 39 = .ok (.aload_n 0, 1) := by decide +kernel
theorem dX5_rowsKeepTheirSums_40 : decode cX5_rowsKeepTheirSums 40 = .ok (.iload_n 1, 1) := by decide +kernel
theorem dX5_rowsKeepTheirSums_41 : decode cX5_rowsKeepTheirSums 41 = .ok (.aload_n 0, 1) := by decide +kernel
theorem dX5_rowsKeepTheirSums_42 : decode cX5_rowsKeepTheirSums 42 = .ok (.getfield 21, 3) := by decide +kernel
theorem dX5_rowsKeepTheirSums_45 : decode cX5_rowsKeepTheirSums 45 = .ok (.iload_n 3, 1) := by decide +kernel
theorem dX5_rowsKeepTheirSums_46 : decode cX5_rowsKeepTheirSums 46 = .ok (.invokevirtual 261, 3) := by decide +kernel
theorem dX5_rowsKeepTheirSums_49 : decode cX5_rowsKeepTheirSums 49 = .ok (.invokevirtual 252, 3) := by decide +kernel
theorem dX5_rowsKeepTheirSums_52 : decode cX5_rowsKeepTheirSums 52 = .ok (.iload_n 2, 1) := by decide +kernel
theorem dX5_rowsKeepTheirSums_53 : decode cX5_rowsKeepTheirSums 53 = .ok (.if_icmp .eq 5, 3) := by decide +kernel
theorem dX5_rowsKeepTheirSums_56 : decode cX5_rowsKeepTheirSums 56 = .ok (.iconst 0, 1) := by decide +kernel
theorem dX5_rowsKeepTheirSums_57 : decode cX5_rowsKeepTheirSums 57 = .ok (.ireturn, 1) := by decide +kernel
theorem dX5_rowsKeepTheirSums_58 : decode cX5_rowsKeepTheirSums 58 = .ok (.iinc 3 1, 3) := by decide +kernel
theorem dX5_rowsKeepTheirSums_61 : decode cX5_rowsKeepTheirSums 61 = .ok (.goto (-33), 3) := by decide +kernel
theorem dX5_rowsKeepTheirSums_64 : decode cX5_rowsKeepTheirSums 64 = .ok (.iinc 1 1, 3) := by decide +kernel
theorem dX5_rowsKeepTheirSums_67 : decode cX5_rowsKeepTheirSums 67 = .ok (.goto (-65), 3) := by decide +kernel
theorem dX5_rowsKeepTheirSums_70 : decode cX5_rowsKeepTheirSums 70 = .ok (.iconst 1, 1) := by decide +kernel
theorem dX5_rowsKeepTheirSums_71 : decode cX5_rowsKeepTheirSums 71 = .ok (.ireturn, 1) := by decide +kernel
theorem dX5_placesKeepTheirBounds_0 : decode cX5_placesKeepTheirBounds 0 = .ok (.iconst 0, 1) := by decide +kernel
theorem dX5_placesKeepTheirBounds_1 : decode cX5_placesKeepTheirBounds 1 = .ok (.istore_n 1, 1) := by decide +kernel
theorem dX5_placesKeepTheirBounds_2 : decode cX5_placesKeepTheirBounds 2 = .ok (.iload_n 1, 1) := by decide +kernel
theorem dX5_placesKeepTheirBounds_3 : decode cX5_placesKeepTheirBounds 3 = .ok (.aload_n 0, 1) := by decide +kernel
theorem dX5_placesKeepTheirBounds_4 : decode cX5_placesKeepTheirBounds 4 = .ok (.getfield 10, 3) := by decide +kernel
theorem dX5_placesKeepTheirBounds_7 : decode cX5_placesKeepTheirBounds 7 = .ok (.getfield 57, 3) := by decide +kernel
theorem dX5_placesKeepTheirBounds_10 : decode cX5_placesKeepTheirBounds 10 = .ok (.if_icmp .ge 34, 3) := by decide +kernel
theorem dX5_placesKeepTheirBounds_13 : decode cX5_placesKeepTheirBounds 13 = .ok (.aload_n 0, 1) := by decide +kernel
theorem dX5_placesKeepTheirBounds_14 : decode cX5_placesKeepTheirBounds 14 = .ok (.iload_n 1, 1) := by decide +kernel
theorem dX5_placesKeepTheirBounds_15 : decode cX5_placesKeepTheirBounds 15 = .ok (.invokevirtual 172, 3) := by decide +kernel
theorem dX5_placesKeepTheirBounds_18 : decode cX5_placesKeepTheirBounds 18 = .ok (.istore_n 2, 1) := by decide +kernel
theorem dX5_placesKeepTheirBounds_19 : decode cX5_placesKeepTheirBounds 19 = .ok (.iload_n 2, 1) := by decide +kernel
theorem dX5_placesKeepTheirBounds_20 : decode cX5_placesKeepTheirBounds 20 = .ok (.iconst (-1), 1) := by decide +kernel
theorem dX5_placesKeepTheirBounds_21 : decode cX5_placesKeepTheirBounds 21 = .ok (.if_icmp .eq 17, 3) := by decide +kernel
theorem dX5_placesKeepTheirBounds_24 : decode cX5_placesKeepTheirBounds 24 = .ok (.aload_n 0, 1) := by decide +kernel
theorem dX5_placesKeepTheirBounds_25 : decode cX5_placesKeepTheirBounds 25 = .ok (.getfield 21, 3) := by decide +kernel
theorem dX5_placesKeepTheirBounds_28 : decode cX5_placesKeepTheirBounds 28 = .ok (.iload_n 1, 1) := by decide +kernel
theorem dX5_placesKeepTheirBounds_29 : decode cX5_placesKeepTheirBounds 29 = .ok (.invokevirtual 143, 3) := by decide +kernel
theorem dX5_placesKeepTheirBounds_32 : decode cX5_placesKeepTheirBounds 32 = .ok (.iload_n 2, 1) := by decide +kernel
theorem dX5_placesKeepTheirBounds_33 : decode cX5_placesKeepTheirBounds 33 = .ok (.if_icmp .le 5, 3) := by decide +kernel
theorem dX5_placesKeepTheirBounds_36 : decode cX5_placesKeepTheirBounds 36 = .ok (.iconst 0, 1) := by decide +kernel
theorem dX5_placesKeepTheirBounds_37 : decode cX5_placesKeepTheirBounds 37 = .ok (.ireturn, 1) := by decide +kernel
theorem dX5_placesKeepTheirBounds_38 : decode cX5_placesKeepTheirBounds 38 = .ok (.iinc 1 1, 3) := by decide +kernel
theorem dX5_placesKeepTheirBounds_41 : decode cX5_placesKeepTheirBounds 41 = .ok (.goto (-39), 3) := by decide +kernel
theorem dX5_placesKeepTheirBounds_44 : decode cX5_placesKeepTheirBounds 44 = .ok (.iconst 1, 1) := by decide +kernel
theorem dX5_placesKeepTheirBounds_45 : decode cX5_placesKeepTheirBounds 45 = .ok (.ireturn, 1) := by decide +kernel
theorem dX6_init_0 : decode cX6_init 0 = .ok (.aload_n 0, 1) := by decide +kernel
theorem dX6_init_1 : decode cX6_init 1 = .ok (.invokespecial 1, 3) := by decide +kernel
theorem dX6_init_4 : decode cX6_init 4 = .ok (.aload_n 0, 1) := by decide +kernel
theorem dX6_init_5 : decode cX6_init 5 = .ok (.bipush 6, 2) := by decide +kernel
theorem dX6_init_7 : decode cX6_init 7 = .ok (.newarray .int, 2) := by decide +kernel
theorem dX6_init_9 : decode cX6_init 9 = .ok (.putfield 7, 3) := by decide +kernel
theorem dX6_init_12 : decode cX6_init 12 = .ok (.aload_n 0, 1) := by decide +kernel
theorem dX6_init_13 : decode cX6_init 13 = .ok (.sipush 240, 3) := by decide +kernel
theorem dX6_init_16 : decode cX6_init 16 = .ok (.newarray .int, 2) := by decide +kernel
theorem dX6_init_18 : decode cX6_init 18 = .ok (.putfield 13, 3) := by decide +kernel
theorem dX6_init_21 : decode cX6_init 21 = .ok (.aload_n 0, 1) := by decide +kernel
theorem dX6_init_22 : decode cX6_init 22 = .ok (.bipush 10, 2) := by decide +kernel
theorem dX6_init_24 : decode cX6_init 24 = .ok (.newarray .int, 2) := by decide +kernel
theorem dX6_init_26 : decode cX6_init 26 = .ok (.putfield 16, 3) := by decide +kernel
theorem dX6_init_29 : decode cX6_init 29 = .ok (.aload_n 0, 1) := by decide +kernel
theorem dX6_init_30 : decode cX6_init 30 = .ok (.sipush 1806, 3) := by decide +kernel
theorem dX6_init_33 : decode cX6_init 33 = .ok (.newarray .int, 2) := by decide +kernel
theorem dX6_init_35 : decode cX6_init 35 = .ok (.putfield 19, 3) := by decide +kernel
theorem dX6_init_38 : decode cX6_init 38 = .ok (.aload_n 0, 1) := by decide +kernel
theorem dX6_init_39 : decode cX6_init 39 = .ok (.sipush 300, 3) := by decide +kernel
theorem dX6_init_42 : decode cX6_init 42 = .ok (.newarray .int, 2) := by decide +kernel
theorem dX6_init_44 : decode cX6_init 44 = .ok (.putfield 22, 3) := by decide +kernel
theorem dX6_init_47 : decode cX6_init 47 = .ok (.aload_n 0, 1) := by decide +kernel
theorem dX6_init_48 : decode cX6_init 48 = .ok (.sipush 300, 3) := by decide +kernel
theorem dX6_init_51 : decode cX6_init 51 = .ok (.newarray .int, 2) := by decide +kernel
theorem dX6_init_53 : decode cX6_init 53 = .ok (.putfield 25, 3) := by decide +kernel
theorem dX6_init_56 : decode cX6_init 56 = .ok (.aload_n 0, 1) := by decide +kernel
theorem dX6_init_57 : decode cX6_init 57 = .ok (.sipush 2400, 3) := by decide +kernel
theorem dX6_init_60 : decode cX6_init 60 = .ok (.newarray .int, 2) := by decide +kernel
theorem dX6_init_62 : decode cX6_init 62 = .ok (.putfield 28, 3) := by decide +kernel
theorem dX6_init_65 : decode cX6_init 65 = .ok (.aload_n 0, 1) := by decide +kernel
theorem dX6_init_66 : decode cX6_init 66 = .ok (.sipush 300, 3) := by decide +kernel
theorem dX6_init_69 : decode cX6_init 69 = .ok (.newarray .boolean, 2) := by decide +kernel
theorem dX6_init_71 : decode cX6_init 71 = .ok (.putfield 31, 3) := by decide +kernel
theorem dX6_init_74 : decode cX6_init 74 = .ok (.aload_n 0, 1) := by decide +kernel
theorem dX6_init_75 : decode cX6_init 75 = .ok (.sipush 300, 3) := by decide +kernel
theorem dX6_init_78 : decode cX6_init 78 = .ok (.newarray .int, 2) := by decide +kernel
theorem dX6_init_80 : decode cX6_init 80 = .ok (.putfield 35, 3) := by decide +kernel
theorem dX6_init_83 : decode cX6_init 83 = .ok (.aload_n 0, 1) := by decide +kernel
theorem dX6_init_84 : decode cX6_init 84 = .ok (.sipush 300, 3) := by decide +kernel
theorem dX6_init_87 : decode cX6_init 87 = .ok (.newarray .int, 2) := by decide +kernel
theorem dX6_init_89 : decode cX6_init 89 = .ok (.putfield 38, 3) := by decide +kernel
theorem dX6_init_92 : decode cX6_init 92 = .ok (.aload_n 0, 1) := by decide +kernel
theorem dX6_init_93 : decode cX6_init 93 = .ok (.sipush 6561, 3) := by decide +kernel
theorem dX6_init_96 : decode cX6_init 96 = .ok (.newarray .int, 2) := by decide +kernel
theorem dX6_init_98 : decode cX6_init 98 = .ok (.putfield 41, 3) := by decide +kernel
theorem dX6_init_101 : decode cX6_init 101 = .ok (.return_, 1) := by decide +kernel
theorem dX6_thrown_0 : decode cX6_thrown 0 = .ok (.aload_n 0, 1) := by decide +kernel
theorem dX6_thrown_1 : decode cX6_thrown 1 = .ok (.getfield 44, 3) := by decide +kernel
theorem dX6_thrown_4 : decode cX6_thrown 4 = .ok (.ireturn, 1) := by decide +kernel
theorem dX6_goesWell_0 : decode cX6_goesWell 0 = .ok (.aload_n 0, 1) := by decide +kernel
theorem dX6_goesWell_1 : decode cX6_goesWell 1 = .ok (.iload_n 1, 1) := by decide +kernel
theorem dX6_goesWell_2 : decode cX6_goesWell 2 = .ok (.putfield 44, 3) := by decide +kernel
theorem dX6_goesWell_5 : decode cX6_goesWell 5 = .ok (.iload_n 1, 1) := by decide +kernel
theorem dX6_goesWell_6 : decode cX6_goesWell 6 = .ok (.ifCond .ne 7, 3) := by decide +kernel
theorem dX6_goesWell_9 : decode cX6_goesWell 9 = .ok (.iconst 1, 1) := by decide +kernel
theorem dX6_goesWell_10 : decode cX6_goesWell 10 = .ok (.goto 4, 3) := by decide +kernel
theorem dX6_goesWell_13 : decode cX6_goesWell 13 = .ok (.iconst 0, 1) := by decide +kernel
theorem dX6_goesWell_14 : decode cX6_goesWell 14 = .ok (.ireturn, 1) := by decide +kernel
theorem dX6_in_0 : decode cX6_in 0 = .ok (.iload_n 0, 1) := by decide +kernel
theorem dX6_in_1 : decode cX6_in 1 = .ok (.iload_n 1, 1) := by decide +kernel
theorem dX6_in_2 : decode cX6_in 2 = .ok (.if_icmp .lt 12, 3) := by decide +kernel
theorem dX6_in_5 : decode cX6_in 5 = .ok (.iload_n 0, 1) := by decide +kernel
theorem dX6_in_6 : decode cX6_in 6 = .ok (.iload_n 2, 1) := by decide +kernel
theorem dX6_in_7 : decode cX6_in 7 = .ok (.if_icmp .gt 7, 3) := by decide +kernel
theorem dX6_in_10 : decode cX6_in 10 = .ok (.iconst 1, 1) := by decide +kernel
theorem dX6_in_11 : decode cX6_in 11 = .ok (.goto 4, 3) := by decide +kernel
theorem dX6_in_14 : decode cX6_in 14 = .ok (.iconst 0, 1) := by decide +kernel
theorem dX6_in_15 : decode cX6_in 15 = .ok (.ireturn, 1) := by decide +kernel
theorem dX6_isPlace_0 : decode cX6_isPlace 0 = .ok (.iload_n 1, 1) := by decide +kernel
theorem dX6_isPlace_1 : decode cX6_isPlace 1 = .ok (.iconst 0, 1) := by decide +kernel
theorem dX6_isPlace_2 : decode cX6_isPlace 2 = .ok (.aload_n 0, 1) := by decide +kernel
theorem dX6_isPlace_3 : decode cX6_isPlace 3 = .ok (.getfield 48, 3) := by decide +kernel
theorem dX6_isPlace_6 : decode cX6_isPlace 6 = .ok (.iconst 1, 1) := by decide +kernel
theorem dX6_isPlace_7 : decode cX6_isPlace 7 = .ok (.isub, 1) := by decide +kernel
theorem dX6_isPlace_8 : decode cX6_isPlace 8 = .ok (.invokestatic 51, 3) := by decide +kernel
theorem dX6_isPlace_11 : decode cX6_isPlace 11 = .ok (.ireturn, 1) := by decide +kernel
theorem dX6_isFiring_0 : decode cX6_isFiring 0 = .ok (.iload_n 1, 1) := by decide +kernel
theorem dX6_isFiring_1 : decode cX6_isFiring 1 = .ok (.iconst 0, 1) := by decide +kernel
theorem dX6_isFiring_2 : decode cX6_isFiring 2 = .ok (.aload_n 0, 1) := by decide +kernel
theorem dX6_isFiring_3 : decode cX6_isFiring 3 = .ok (.getfield 55, 3) := by decide +kernel
theorem dX6_isFiring_6 : decode cX6_isFiring 6 = .ok (.iconst 1, 1) := by decide +kernel
theorem dX6_isFiring_7 : decode cX6_isFiring 7 = .ok (.isub, 1) := by decide +kernel
theorem dX6_isFiring_8 : decode cX6_isFiring 8 = .ok (.invokestatic 51, 3) := by decide +kernel
theorem dX6_isFiring_11 : decode cX6_isFiring 11 = .ok (.ireturn, 1) := by decide +kernel
theorem dX6_weight_0 : decode cX6_weight 0 = .ok (.aload_n 0, 1) := by decide +kernel
theorem dX6_weight_1 : decode cX6_weight 1 = .ok (.getfield 13, 3) := by decide +kernel
theorem dX6_weight_4 : decode cX6_weight 4 = .ok (.bipush 48, 2) := by decide +kernel
theorem dX6_weight_6 : decode cX6_weight 6 = .ok (.iload_n 1, 1) := by decide +kernel
theorem dX6_weight_7 : decode cX6_weight 7 = .ok (.imul, 1) := by decide +kernel
theorem dX6_weight_8 : decode cX6_weight 8 = .ok (.bipush 6, 2) := by decide +kernel
theorem dX6_weight_10 : decode cX6_weight 10 = .ok (.iload_n 2, 1) := by decide +kernel
theorem dX6_weight_11 : decode cX6_weight 11 = .ok (.imul, 1) := by decide +kernel
theorem dX6_weight_12 : decode cX6_weight 12 = .ok (.iadd, 1) := by decide +kernel
theorem dX6_weight_13 : decode cX6_weight 13 = .ok (.iload_n 3, 1) := by decide +kernel
theorem dX6_weight_14 : decode cX6_weight 14 = .ok (.iadd, 1) := by decide +kernel
theorem dX6_weight_15 : decode cX6_weight 15 = .ok (.iaload, 1) := by decide +kernel
theorem dX6_weight_16 : decode cX6_weight 16 = .ok (.ireturn, 1) := by decide +kernel
theorem dX6_place_0 : decode cX6_place 0 = .ok (.iload_n 1, 1) := by decide +kernel
theorem dX6_place_1 : decode cX6_place 1 = .ok (.iconst 0, 1) := by decide +kernel
theorem dX6_place_2 : decode cX6_place 2 = .ok (.bipush 99, 2) := by decide +kernel
theorem dX6_place_4 : decode cX6_place 4 = .ok (.invokestatic 51, 3) := by decide +kernel
theorem dX6_place_7 : decode cX6_place 7 = .ok (.istore_n 2, 1) := by decide +kernel
theorem dX6_place_8 : decode cX6_place 8 = .ok (.aload_n 0, 1) := by decide +kernel
theorem dX6_place_9 : decode cX6_place 9 = .ok (.iload_n 2, 1) := by decide +kernel
theorem dX6_place_10 : decode cX6_place 10 = .ok (.ifCond .ne 7, 3) := by decide +kernel
theorem dX6_place_13 : decode cX6_place 13 = .ok (.iconst 1, 1) := by decide +kernel
theorem dX6_place_14 : decode cX6_place 14 = .ok (.goto 17, 3) := by decide +kernel
theorem dX6_place_17 : decode cX6_place 17 = .ok (.aload_n 0, 1) := by decide +kernel
theorem dX6_place_18 : decode cX6_place 18 = .ok (.getfield 48, 3) := by decide +kernel
theorem dX6_place_21 : decode cX6_place 21 = .ok (.bipush 6, 2) := by decide +kernel
theorem dX6_place_23 : decode cX6_place 23 = .ok (.if_icmp .ne 7, 3) := by decide +kernel
theorem dX6_place_26 : decode cX6_place 26 = .ok (.iconst 2, 1) := by decide +kernel
theorem dX6_place_27 : decode cX6_place 27 = .ok (.goto 4, 3) := by decide +kernel
theorem dX6_place_30 : decode cX6_place 30 = .ok (.iconst 0, 1) := by decide +kernel
theorem dX6_place_31 : decode cX6_place 31 = .ok (.invokevirtual 58, 3) := by decide +kernel
theorem dX6_place_34 : decode cX6_place 34 = .ok (.ifCond .ne 5, 3) := by decide +kernel
theorem dX6_place_37 : decode cX6_place 37 = .ok (.iconst 0, 1) := by decide +kernel
theorem dX6_place_38 : decode cX6_place 38 = .ok (.ireturn, 1) := by decide +kernel
theorem dX6_place_39 : decode cX6_place 39 = .ok (.aload_n 0, 1) := by decide +kernel
theorem dX6_place_40 : decode cX6_place 40 = .ok (.getfield 7, 3) := by decide +kernel
theorem dX6_place_43 : decode cX6_place 43 = .ok (.aload_n 0, 1) := by decide +kernel
theorem dX6_place_44 : decode cX6_place 44 = .ok (.getfield 48, 3) := by decide +kernel
theorem dX6_place_47 : decode cX6_place 47 = .ok (.iload_n 1, 1) := by decide +kernel
theorem dX6_place_48 : decode cX6_place 48 = .ok (.iastore, 1) := by decide +kernel
theorem dX6_place_49 : decode cX6_place 49 = .ok (.aload_n 0, 1) := by decide +kernel
theorem dX6_place_50 : decode cX6_place 50 = .ok (.dup, 1) := by decide +kernel
theorem dX6_place_51 : decode cX6_place 51 = .ok (.getfield 48, 3) := by decide +kernel
theorem dX6_place_54 : decode cX6_place 54 = .ok (.iconst 1, 1) := by decide +kernel
theorem dX6_place_55 : decode cX6_place 55 = .ok (.iadd, 1) := by decide +kernel
theorem dX6_place_56 : decode cX6_place 56 = .ok (.putfield 48, 3) := by decide +kernel
theorem dX6_place_59 : decode cX6_place 59 = .ok (.aload_n 0, 1) := by decide +kernel
theorem dX6_place_60 : decode cX6_place 60 = .ok (.getfield 48, 3) := by decide +kernel
theorem dX6_place_63 : decode cX6_place 63 = .ok (.iconst 1, 1) := by decide +kernel
theorem dX6_place_64 : decode cX6_place 64 = .ok (.isub, 1) := by decide +kernel
theorem dX6_place_65 : decode cX6_place 65 = .ok (.ireturn, 1) := by decide +kernel
theorem dX6_firing_0 : decode cX6_firing 0 = .ok (.aload_n 0, 1) := by decide +kernel
theorem dX6_firing_1 : decode cX6_firing 1 = .ok (.aload_n 0, 1) := by decide +kernel
theorem dX6_firing_2 : decode cX6_firing 2 = .ok (.getfield 55, 3) := by decide +kernel
theorem dX6_firing_5 : decode cX6_firing 5 = .ok (.bipush 8, 2) := by decide +kernel
theorem dX6_firing_7 : decode cX6_firing 7 = .ok (.if_icmp .ne 7, 3) := by decide +kernel
theorem dX6_firing_10 : decode cX6_firing 10 = .ok (.iconst 1, 1) := by decide +kernel
theorem dX6_firing_11 : decode cX6_firing 11 = .ok (.goto 4, 3) := by decide +kernel
theorem dX6_firing_14 : decode cX6_firing 14 = .ok (.iconst 0, 1) := by decide +kernel
theorem dX6_firing_15 : decode cX6_firing 15 = .ok (.invokevirtual 58, 3) := by decide +kernel
theorem dX6_firing_18 : decode cX6_firing 18 = .ok (.ifCond .ne 5, 3) := by decide +kernel
theorem dX6_firing_21 : decode cX6_firing 21 = .ok (.iconst 0, 1) := by decide +kernel
theorem dX6_firing_22 : decode cX6_firing 22 = .ok (.ireturn, 1) := by decide +kernel
theorem dX6_firing_23 : decode cX6_firing 23 = .ok (.aload_n 0, 1) := by decide +kernel
theorem dX6_firing_24 : decode cX6_firing 24 = .ok (.dup, 1) := by decide +kernel
theorem dX6_firing_25 : decode cX6_firing 25 = .ok (.getfield 55, 3) := by decide +kernel
theorem dX6_firing_28 : decode cX6_firing 28 = .ok (.iconst 1, 1) := by decide +kernel
theorem dX6_firing_29 : decode cX6_firing 29 = .ok (.iadd, 1) := by decide +kernel
theorem dX6_firing_30 : decode cX6_firing 30 = .ok (.putfield 55, 3) := by decide +kernel
theorem dX6_firing_33 : decode cX6_firing 33 = .ok (.aload_n 0, 1) := by decide +kernel
theorem dX6_firing_34 : decode cX6_firing 34 = .ok (.getfield 55, 3) := by decide +kernel
theorem dX6_firing_37 : decode cX6_firing 37 = .ok (.iconst 1, 1) := by decide +kernel
theorem dX6_firing_38 : decode cX6_firing 38 = .ok (.isub, 1) := by decide +kernel
theorem dX6_firing_39 : decode cX6_firing 39 = .ok (.ireturn, 1) := by decide +kernel
theorem dX6_arc_0 : decode cX6_arc 0 = .ok (.aload_n 0, 1) := by decide +kernel
theorem dX6_arc_1 : decode cX6_arc 1 = .ok (.iload_n 1, 1) := by decide +kernel
theorem dX6_arc_2 : decode cX6_arc 2 = .ok (.invokevirtual 62, 3) := by decide +kernel
theorem dX6_arc_5 : decode cX6_arc 5 = .ok (.ifCond .eq 15, 3) := by decide +kernel
theorem dX6_arc_8 : decode cX6_arc 8 = .ok (.aload_n 0, 1) := by decide +kernel
theorem dX6_arc_9 : decode cX6_arc 9 = .ok (.iload_n 2, 1) := by decide +kernel
theorem dX6_arc_10 : decode cX6_arc 10 = .ok (.invokevirtual 65, 3) := by decide +kernel
theorem dX6_arc_13 : decode cX6_arc 13 = .ok (.ifCond .eq 7, 3) := by decide +kernel
theorem dX6_arc_16 : decode cX6_arc 16 = .ok (.iconst 1, 1) := by decide +kernel
theorem dX6_arc_17 : decode cX6_arc 17 = .ok (.goto 4, 3) := by decide +kernel
theorem dX6_arc_20 : decode cX6_arc 20 = .ok (.iconst 0, 1) := by decide +kernel
theorem dX6_arc_21 : decode cX6_arc 21 = .ok (.istore 5, 2) := by decide +kernel
theorem dX6_arc_23 : decode cX6_arc 23 = .ok (.iload_n 3, 1) := by decide +kernel
theorem dX6_arc_24 : decode cX6_arc 24 = .ok (.iconst 0, 1) := by decide +kernel
theorem dX6_arc_25 : decode cX6_arc 25 = .ok (.iconst 4, 1) := by decide +kernel
theorem dX6_arc_26 : decode cX6_arc 26 = .ok (.invokestatic 51, 3) := by decide +kernel
theorem dX6_arc_29 : decode cX6_arc 29 = .ok (.ifCond .eq 26, 3) := by decide +kernel
theorem dX6_arc_32 : decode cX6_arc 32 = .ok (.iload 4, 2) := by decide +kernel
theorem dX6_arc_34 : decode cX6_arc 34 = .ok (.iconst 0, 1) := by decide +kernel
theorem dX6_arc_35 : decode cX6_arc 35 = .ok (.iload_n 3, 1) := by decide +kernel
theorem dX6_arc_36 : decode cX6_arc 36 = .ok (.iconst 4, 1) := by decide +kernel
theorem dX6_arc_37 : decode cX6_arc 37 = .ok (.if_icmp .ne 7, 3) := by decide +kernel
theorem dX6_arc_40 : decode cX6_arc 40 = .ok (.iconst 1, 1) := by decide +kernel
theorem dX6_arc_41 : decode cX6_arc 41 = .ok (.goto 4, 3) := by decide +kernel
theorem dX6_arc_44 : decode cX6_arc 44 = .ok (.iconst 3, 1) := by decide +kernel
theorem dX6_arc_45 : decode cX6_arc 45 = .ok (.invokestatic 51, 3) := by decide +kernel
theorem dX6_arc_48 : decode cX6_arc 48 = .ok (.ifCond .eq 7, 3) := by decide +kernel
theorem dX6_arc_51 : decode cX6_arc 51 = .ok (.iconst 1, 1) := by decide +kernel
theorem dX6_arc_52 : decode cX6_arc 52 = .ok (.goto 4, 3) := by decide +kernel
theorem dX6_arc_55 : decode cX6_arc 55 = .ok (.iconst 0, 1) := by decide +kernel
theorem dX6_arc_56 : decode cX6_arc 56 = .ok (.istore 6, 2) := by decide +kernel
theorem dX6_arc_58 : decode cX6_arc 58 = .ok (.aload_n 0, 1) := by decide +kernel
theorem dX6_arc_59 : decode cX6_arc 59 = .ok (.iload 5, 2) := by decide +kernel
theorem dX6_arc_61 : decode cX6_arc 61 = .ok (.ifCond .ne 7, 3) := by decide +kernel
theorem dX6_arc_64 : decode cX6_arc 64 = .ok (.iconst 1, 1) := by decide +kernel
theorem dX6_arc_65 : decode cX6_arc 65 = .ok (.goto 13, 3) := by decide +kernel
theorem dX6_arc_68 : decode cX6_arc 68 = .ok (.iload 6, 2) := by decide +kernel
theorem dX6_arc_70 : decode cX6_arc 70 = .ok (.ifCond .eq 7, 3) := by decide +kernel
theorem dX6_arc_73 : decode cX6_arc 73 = .ok (.iconst 0, 1) := by decide +kernel
theorem dX6_arc_74 : decode cX6_arc 74 = .ok (.goto 4, 3) := by decide +kernel
theorem dX6_arc_77 : decode cX6_arc 77 = .ok (.iconst 2, 1) := by decide +kernel
theorem dX6_arc_78 : decode cX6_arc 78 = .ok (.invokevirtual 58, 3) := by decide +kernel
theorem dX6_arc_81 : decode cX6_arc 81 = .ok (.ifCond .ne 5, 3) := by decide +kernel
theorem dX6_arc_84 : decode cX6_arc 84 = .ok (.iconst 0, 1) := by decide +kernel
theorem dX6_arc_85 : decode cX6_arc 85 = .ok (.ireturn, 1) := by decide +kernel
theorem dX6_arc_86 : decode cX6_arc 86 = .ok (.aload_n 0, 1) := by decide +kernel
theorem dX6_arc_87 : decode cX6_arc 87 = .ok (.iload_n 3, 1) := by decide +kernel
theorem dX6_arc_88 : decode cX6_arc 88 = .ok (.iload_n 1, 1) := by decide +kernel
theorem dX6_arc_89 : decode cX6_arc 89 = .ok (.iload_n 2, 1) := by decide +kernel
theorem dX6_arc_90 : decode cX6_arc 90 = .ok (.invokevirtual 68, 3) := by decide +kernel
theorem dX6_arc_93 : decode cX6_arc 93 = .ok (.istore 7, 2) := by decide +kernel
theorem dX6_arc_95 : decode cX6_arc 95 = .ok (.aload_n 0, 1) := by decide +kernel
theorem dX6_arc_96 : decode cX6_arc 96 = .ok (.getfield 13, 3) := by decide +kernel
theorem dX6_arc_99 : decode cX6_arc 99 = .ok (.bipush 48, 2) := by decide +kernel
theorem dX6_arc_101 : decode cX6_arc 101 = .ok (.iload_n 3, 1) := by decide +kernel
theorem dX6_arc_102 : decode cX6_arc 102 = .ok (.imul, 1) := by decide +kernel
theorem dX6_arc_103 : decode cX6_arc 103 = .ok (.bipush 6, 2) := by decide +kernel
theorem dX6_arc_105 : decode cX6_arc 105 = .ok (.iload_n 1, 1) := by decide +kernel
theorem dX6_arc_106 : decode cX6_arc 106 = .ok (.imul, 1) := by decide +kernel
theorem dX6_arc_107 : decode cX6_arc 107 = .ok (.iadd, 1) := by decide +kernel
theorem dX6_arc_108 : decode cX6_arc 108 = .ok (.iload_n 2, 1) := by decide +kernel
theorem dX6_arc_109 : decode cX6_arc 109 = .ok (.iadd, 1) := by decide +kernel
theorem dX6_arc_110 : decode cX6_arc 110 = .ok (.iload 4, 2) := by decide +kernel
theorem dX6_arc_112 : decode cX6_arc 112 = .ok (.iastore, 1) := by decide +kernel
theorem dX6_arc_113 : decode cX6_arc 113 = .ok (.iload 7, 2) := by decide +kernel
theorem dX6_arc_115 : decode cX6_arc 115 = .ok (.ireturn, 1) := by decide +kernel
theorem dX6_tokens_0 : decode cX6_tokens 0 = .ok (.aload_n 0, 1) := by decide +kernel
theorem dX6_tokens_1 : decode cX6_tokens 1 = .ok (.aload_n 0, 1) := by decide +kernel
theorem dX6_tokens_2 : decode cX6_tokens 2 = .ok (.iload_n 1, 1) := by decide +kernel
theorem dX6_tokens_3 : decode cX6_tokens 3 = .ok (.invokevirtual 65, 3) := by decide +kernel
theorem dX6_tokens_6 : decode cX6_tokens 6 = .ok (.ifCond .eq 7, 3) := by decide +kernel
theorem dX6_tokens_9 : decode cX6_tokens 9 = .ok (.iconst 0, 1) := by decide +kernel
theorem dX6_tokens_10 : decode cX6_tokens 10 = .ok (.goto 4, 3) := by decide +kernel
theorem dX6_tokens_13 : decode cX6_tokens 13 = .ok (.iconst 1, 1) := by decide +kernel
theorem dX6_tokens_14 : decode cX6_tokens 14 = .ok (.invokevirtual 58, 3) := by decide +kernel
theorem dX6_tokens_17 : decode cX6_tokens 17 = .ok (.ifCond .eq 12, 3) := by decide +kernel
theorem dX6_tokens_20 : decode cX6_tokens 20 = .ok (.aload_n 0, 1) := by decide +kernel
theorem dX6_tokens_21 : decode cX6_tokens 21 = .ok (.getfield 7, 3) := by decide +kernel
theorem dX6_tokens_24 : decode cX6_tokens 24 = .ok (.iload_n 1, 1) := by decide +kernel
theorem dX6_tokens_25 : decode cX6_tokens 25 = .ok (.iaload, 1) := by decide +kernel
theorem dX6_tokens_26 : decode cX6_tokens 26 = .ok (.goto 4, 3) := by decide +kernel
theorem dX6_tokens_29 : decode cX6_tokens 29 = .ok (.iconst 0, 1) := by decide +kernel
theorem dX6_tokens_30 : decode cX6_tokens 30 = .ok (.ireturn, 1) := by decide +kernel
theorem dX6_after_0 : decode cX6_after 0 = .ok (.aload_n 0, 1) := by decide +kernel
theorem dX6_after_1 : decode cX6_after 1 = .ok (.iconst 4, 1) := by decide +kernel
theorem dX6_after_2 : decode cX6_after 2 = .ok (.iload_n 2, 1) := by decide +kernel
theorem dX6_after_3 : decode cX6_after 3 = .ok (.iload_n 3, 1) := by decide +kernel
theorem dX6_after_4 : decode cX6_after 4 = .ok (.invokevirtual 68, 3) := by decide +kernel
theorem dX6_after_7 : decode cX6_after 7 = .ok (.iconst 1, 1) := by decide +kernel
theorem dX6_after_8 : decode cX6_after 8 = .ok (.if_icmp .ne 7, 3) := by decide +kernel
theorem dX6_after_11 : decode cX6_after 11 = .ok (.iconst 0, 1) := by decide +kernel
theorem dX6_after_12 : decode cX6_after 12 = .ok (.goto 12, 3) := by decide +kernel
theorem dX6_after_15 : decode cX6_after 15 = .ok (.iload_n 1, 1) := by decide +kernel
theorem dX6_after_16 : decode cX6_after 16 = .ok (.aload_n 0, 1) := by decide +kernel
theorem dX6_after_17 : decode cX6_after 17 = .ok (.iconst 0, 1) := by decide +kernel
theorem dX6_after_18 : decode cX6_after 18 = .ok (.iload_n 2, 1) := by decide +kernel
theorem dX6_after_19 : decode cX6_after 19 = .ok (.iload_n 3, 1) := by decide +kernel
theorem dX6_after_20 : decode cX6_after 20 = .ok (.invokevirtual 68, 3) := by decide +kernel
theorem dX6_after_23 : decode cX6_after 23 = .ok (.isub, 1) := by decide +kernel
theorem dX6_after_24 : decode cX6_after 24 = .ok (.aload_n 0, 1) := by decide +kernel
theorem dX6_after_25 : decode cX6_after 25 = .ok (.iconst 1, 1) := by decide +kernel
theorem dX6_after_26 : decode cX6_after 26 = .ok (.iload_n 2, 1) := by decide +kernel
theorem dX6_after_27 : decode cX6_after 27 = .ok (.iload_n 3, 1) := by decide +kernel
theorem dX6_after_28 : decode cX6_after 28 = .ok (.invokevirtual 68, 3) := by decide +kernel
theorem dX6_after_31 : decode cX6_after 31 = .ok (.iadd, 1) := by decide +kernel
theorem dX6_after_32 : decode cX6_after 32 = .ok (.ireturn, 1) := by decide +kernel
theorem dX6_canIn_0 : decode cX6_canIn 0 = .ok (.iconst 1, 1) := by decide +kernel
theorem dX6_canIn_1 : decode cX6_canIn 1 = .ok (.istore_n 3, 1) := by decide +kernel
theorem dX6_canIn_2 : decode cX6_canIn 2 = .ok (.iconst 0, 1) := by decide +kernel
theorem dX6_canIn_3 : decode cX6_canIn 3 = .ok (.istore 4, 2) := by decide +kernel
theorem dX6_canIn_5 : decode cX6_canIn 5 = .ok (.iload 4, 2) := by decide +kernel
theorem dX6_canIn_7 : decode cX6_canIn 7 = .ok (.aload_n 0, 1) := by decide +kernel
theorem dX6_canIn_8 : decode cX6_canIn 8 = .ok (.getfield 48, 3) := by decide +kernel
theorem dX6_canIn_11 : decode cX6_canIn 11 = .ok (.if_icmp .ge 95, 3) := by decide +kernel
theorem dX6_canIn_14 : decode cX6_canIn 14 = .ok (.aload_n 0, 1) := by decide +kernel
theorem dX6_canIn_15 : decode cX6_canIn 15 = .ok (.getfield 19, 3) := by decide +kernel
theorem dX6_canIn_18 : decode cX6_canIn 18 = .ok (.bipush 6, 2) := by decide +kernel
theorem dX6_canIn_20 : decode cX6_canIn 20 = .ok (.iload_n 1, 1) := by decide +kernel
theorem dX6_canIn_21 : decode cX6_canIn 21 = .ok (.imul, 1) := by decide +kernel
theorem dX6_canIn_22 : decode cX6_canIn 22 = .ok (.iload 4, 2) := by decide +kernel
theorem dX6_canIn_24 : decode cX6_canIn 24 = .ok (.iadd, 1) := by decide +kernel
theorem dX6_canIn_25 : decode cX6_canIn 25 = .ok (.iaload, 1) := by decide +kernel
theorem dX6_canIn_26 : decode cX6_canIn 26 = .ok (.istore 5, 2) := by decide +kernel
theorem dX6_canIn_28 : decode cX6_canIn 28 = .ok (.aload_n 0, 1) := by decide +kernel
theorem dX6_canIn_29 : decode cX6_canIn 29 = .ok (.iconst 3, 1) := by decide +kernel
theorem dX6_canIn_30 : decode cX6_canIn 30 = .ok (.iload_n 2, 1) := by decide +kernel
theorem dX6_canIn_31 : decode cX6_canIn 31 = .ok (.iload 4, 2) := by decide +kernel
theorem dX6_canIn_33 : decode cX6_canIn 33 = .ok (.invokevirtual 68, 3) := by decide +kernel
theorem dX6_canIn_36 : decode cX6_canIn 36 = .ok (.istore 6, 2) := by decide +kernel
theorem dX6_canIn_38 : decode cX6_canIn 38 = .ok (.iload_n 3, 1) := by decide +kernel
theorem dX6_canIn_39 : decode cX6_canIn 39 = .ok (.ifCond .eq 59, 3) := by decide +kernel
theorem dX6_canIn_42 : decode cX6_canIn 42 = .ok (.iload 5, 2) := by decide +kernel
theorem dX6_canIn_44 : decode cX6_canIn 44 = .ok (.aload_n 0, 1) := by decide +kernel
theorem dX6_canIn_45 : decode cX6_canIn 45 = .ok (.iconst 0, 1) := by decide +kernel
theorem dX6_canIn_46 : decode cX6_canIn 46 = .ok (.iload_n 2, 1) := by decide +kernel
theorem dX6_canIn_47 : decode cX6_canIn 47 = .ok (.iload 4, 2) := by decide +kernel
theorem dX6_canIn_49 : decode cX6_canIn 49 = .ok (.invokevirtual 68, 3) := by decide +kernel
theorem dX6_canIn_52 : decode cX6_canIn 52 = .ok (.if_icmp .lt 46, 3) := by decide +kernel
theorem dX6_canIn_55 : decode cX6_canIn 55 = .ok (.iload 5, 2) := by decide +kernel
theorem dX6_canIn_57 : decode cX6_canIn 57 = .ok (.aload_n 0, 1) := by decide +kernel
theorem dX6_canIn_58 : decode cX6_canIn 58 = .ok (.iconst 2, 1) := by decide +kernel
theorem dX6_canIn_59 : decode cX6_canIn 59 = .ok (.iload_n 2, 1) := by decide +kernel
theorem dX6_canIn_60 : decode cX6_canIn 60 = .ok (.iload 4, 2) := by decide +kernel
theorem dX6_canIn_62 : decode cX6_canIn 62 = .ok (.invokevirtual 68, 3) := by decide +kernel
theorem dX6_canIn_65 : decode cX6_canIn 65 = .ok (.if_icmp .lt 33, 3) := by decide +kernel
theorem dX6_canIn_68 : decode cX6_canIn 68 = .ok (.iload 6, 2) := by decide +kernel
theorem dX6_canIn_70 : decode cX6_canIn 70 = .ok (.ifCond .eq 10, 3) := by decide +kernel
theorem dX6_canIn_73 : decode cX6_canIn 73 = .ok (.iload 5, 2) := by decide +kernel
theorem dX6_canIn_75 : decode cX6_canIn 75 = .ok (.iload 6, 2) := by decide +kernel
theorem dX6_canIn_77 : decode cX6_canIn 77 = .ok (.if_icmp .ge 21, 3) := by decide +kernel
theorem dX6_canIn_80 : decode cX6_canIn 80 = .ok (.aload_n 0, 1) := by decide +kernel
theorem dX6_canIn_81 : decode cX6_canIn 81 = .ok (.iload 5, 2) := by decide +kernel
theorem dX6_canIn_83 : decode cX6_canIn 83 = .ok (.iload_n 2, 1) := by decide +kernel
theorem dX6_canIn_84 : decode cX6_canIn 84 = .ok (.iload 4, 2) := by decide +kernel
theorem dX6_canIn_86 : decode cX6_canIn 86 = .ok (.invokevirtual 72, 3) := by decide +kernel
theorem dX6_canIn_89 : decode cX6_canIn 89 = .ok (.bipush 99, 2) := by decide +kernel
theorem dX6_canIn_91 : decode cX6_canIn 91 = .ok (.if_icmp .gt 7, 3) := by decide +kernel
theorem dX6_canIn_94 : decode cX6_canIn 94 = .ok (.iconst 1, 1) := by decide +kernel
theorem dX6_canIn_95 : decode cX6_canIn 95 = .ok (.goto 4, 3) := by decide +kernel
theorem dX6_canIn_98 : decode cX6_canIn 98 = .ok (.iconst 0, 1) := by decide +kernel
theorem dX6_canIn_99 : decode cX6_canIn 99 = .ok (.istore_n 3, 1) := by decide +kernel
theorem dX6_canIn_100 : decode cX6_canIn 100 = .ok (.iinc 4 1, 3) := by decide +kernel
theorem dX6_canIn_103 : decode cX6_canIn 103 = .ok (.goto (-98), 3) := by decide +kernel
theorem dX6_canIn_106 : decode cX6_canIn 106 = .ok (.iload_n 3, 1) := by decide +kernel
theorem dX6_canIn_107 : decode cX6_canIn 107 = .ok (.ireturn, 1) := by decide +kernel
theorem dX6_layNow_0 : decode cX6_layNow 0 = .ok (.iconst 0, 1) := by decide +kernel
theorem dX6_layNow_1 : decode cX6_layNow 1 = .ok (.istore_n 1, 1) := by decide +kernel
theorem dX6_layNow_2 : decode cX6_layNow 2 = .ok (.iload_n 1, 1) := by decide +kernel
theorem dX6_layNow_3 : decode cX6_layNow 3 = .ok (.aload_n 0, 1) := by decide +kernel
theorem dX6_layNow_4 : decode cX6_layNow 4 = .ok (.getfield 48, 3) := by decide +kernel
theorem dX6_layNow_7 : decode cX6_layNow 7 = .ok (.if_icmp .ge 21, 3) := by decide +kernel
theorem dX6_layNow_10 : decode cX6_layNow 10 = .ok (.aload_n 0, 1) := by decide +kernel
theorem dX6_layNow_11 : decode cX6_layNow 11 = .ok (.getfield 19, 3) := by decide +kernel
theorem dX6_layNow_14 : decode cX6_layNow 14 = .ok (.iload_n 1, 1) := by decide +kernel
theorem dX6_layNow_15 : decode cX6_layNow 15 = .ok (.aload_n 0, 1) := by decide +kernel
theorem dX6_layNow_16 : decode cX6_layNow 16 = .ok (.getfield 7, 3) := by decide +kernel
theorem dX6_layNow_19 : decode cX6_layNow 19 = .ok (.iload_n 1, 1) := by decide +kernel
theorem dX6_layNow_20 : decode cX6_layNow 20 = .ok (.iaload, 1) := by decide +kernel
theorem dX6_layNow_21 : decode cX6_layNow 21 = .ok (.iastore, 1) := by decide +kernel
theorem dX6_layNow_22 : decode cX6_layNow 22 = .ok (.iinc 1 1, 3) := by decide +kernel
theorem dX6_layNow_25 : decode cX6_layNow 25 = .ok (.goto (-23), 3) := by decide +kernel
theorem dX6_layNow_28 : decode cX6_layNow 28 = .ok (.return_, 1) := by decide +kernel
theorem dX6_can_0 : decode cX6_can 0 = .ok (.aload_n 0, 1) := by decide +kernel
theorem dX6_can_1 : decode cX6_can 1 = .ok (.invokevirtual 75, 3) := by decide +kernel
theorem dX6_can_4 : decode cX6_can 4 = .ok (.aload_n 0, 1) := by decide +kernel
theorem dX6_can_5 : decode cX6_can 5 = .ok (.aload_n 0, 1) := by decide +kernel
theorem dX6_can_6 : decode cX6_can 6 = .ok (.iload_n 1, 1) := by decide +kernel
theorem dX6_can_7 : decode cX6_can 7 = .ok (.invokevirtual 62, 3) := by decide +kernel
theorem dX6_can_10 : decode cX6_can 10 = .ok (.ifCond .eq 7, 3) := by decide +kernel
theorem dX6_can_13 : decode cX6_can 13 = .ok (.iconst 0, 1) := by decide +kernel
theorem dX6_can_14 : decode cX6_can 14 = .ok (.goto 4, 3) := by decide +kernel
theorem dX6_can_17 : decode cX6_can 17 = .ok (.iconst 1, 1) := by decide +kernel
theorem dX6_can_18 : decode cX6_can 18 = .ok (.invokevirtual 58, 3) := by decide +kernel
theorem dX6_can_21 : decode cX6_can 21 = .ok (.ifCond .eq 16, 3) := by decide +kernel
theorem dX6_can_24 : decode cX6_can 24 = .ok (.aload_n 0, 1) := by decide +kernel
theorem dX6_can_25 : decode cX6_can 25 = .ok (.iconst 0, 1) := by decide +kernel
theorem dX6_can_26 : decode cX6_can 26 = .ok (.iload_n 1, 1) := by decide +kernel
theorem dX6_can_27 : decode cX6_can 27 = .ok (.invokevirtual 78, 3) := by decide +kernel
theorem dX6_can_30 : decode cX6_can 30 = .ok (.ifCond .eq 7, 3) := by decide +kernel
theorem dX6_can_33 : decode cX6_can 33 = .ok (.iconst 1, 1) := by decide +kernel
theorem dX6_can_34 : decode cX6_can 34 = .ok (.goto 4, 3) := by decide +kernel
theorem dX6_can_37 : decode cX6_can 37 = .ok (.iconst 0, 1) := by decide +kernel
theorem dX6_can_38 : decode cX6_can 38 = .ok (.ireturn, 1) := by decide +kernel
theorem dX6_fire_0 : decode cX6_fire 0 = .ok (.aload_n 0, 1) := by decide +kernel
theorem dX6_fire_1 : decode cX6_fire 1 = .ok (.invokevirtual 75, 3) := by decide +kernel
theorem dX6_fire_4 : decode cX6_fire 4 = .ok (.aload_n 0, 1) := by decide +kernel
theorem dX6_fire_5 : decode cX6_fire 5 = .ok (.iload_n 1, 1) := by decide +kernel
theorem dX6_fire_6 : decode cX6_fire 6 = .ok (.invokevirtual 62, 3) := by decide +kernel
theorem dX6_fire_9 : decode cX6_fire 9 = .ok (.istore_n 2, 1) := by decide +kernel
theorem dX6_fire_10 : decode cX6_fire 10 = .ok (.aload_n 0, 1) := by decide +kernel
theorem dX6_fire_11 : decode cX6_fire 11 = .ok (.iload_n 2, 1) := by decide +kernel
theorem dX6_fire_12 : decode cX6_fire 12 = .ok (.ifCond .ne 7, 3) := by decide +kernel
theorem dX6_fire_15 : decode cX6_fire 15 = .ok (.iconst 1, 1) := by decide +kernel
theorem dX6_fire_16 : decode cX6_fire 16 = .ok (.goto 17, 3) := by decide +kernel
theorem dX6_fire_19 : decode cX6_fire 19 = .ok (.aload_n 0, 1) := by decide +kernel
theorem dX6_fire_20 : decode cX6_fire 20 = .ok (.iconst 0, 1) := by decide +kernel
theorem dX6_fire_21 : decode cX6_fire 21 = .ok (.iload_n 1, 1) := by decide +kernel
theorem dX6_fire_22 : decode cX6_fire 22 = .ok (.invokevirtual 78, 3) := by decide +kernel
theorem dX6_fire_25 : decode cX6_fire 25 = .ok (.ifCond .eq 7, 3) := by decide +kernel
theorem dX6_fire_28 : decode cX6_fire 28 = .ok (.iconst 0, 1) := by decide +kernel
theorem dX6_fire_29 : decode cX6_fire 29 = .ok (.goto 4, 3) := by decide +kernel
theorem dX6_fire_32 : decode cX6_fire 32 = .ok (.iconst 2, 1) := by decide +kernel
theorem dX6_fire_33 : decode cX6_fire 33 = .ok (.invokevirtual 58, 3) := by decide +kernel
theorem dX6_fire_36 : decode cX6_fire 36 = .ok (.ifCond .ne 5, 3) := by decide +kernel
theorem dX6_fire_39 : decode cX6_fire 39 = .ok (.iconst 0, 1) := by decide +kernel
theorem dX6_fire_40 : decode cX6_fire 40 = .ok (.ireturn, 1) := by decide +kernel
theorem dX6_fire_41 : decode cX6_fire 41 = .ok (.iconst 0, 1) := by decide +kernel
theorem dX6_fire_42 : decode cX6_fire 42 = .ok (.istore_n 3, 1) := by decide +kernel
theorem dX6_fire_43 : decode cX6_fire 43 = .ok (.iload_n 3, 1) := by decide +kernel
theorem dX6_fire_44 : decode cX6_fire 44 = .ok (.aload_n 0, 1) := by decide +kernel
theorem dX6_fire_45 : decode cX6_fire 45 = .ok (.getfield 48, 3) := by decide +kernel
theorem dX6_fire_48 : decode cX6_fire 48 = .ok (.if_icmp .ge 27, 3) := by decide +kernel
theorem dX6_fire_51 : decode cX6_fire 51 = .ok (.aload_n 0, 1) := by decide +kernel
theorem dX6_fire_52 : decode cX6_fire 52 = .ok (.getfield 7, 3) := by decide +kernel
theorem dX6_fire_55 : decode cX6_fire 55 = .ok (.iload_n 3, 1) := by decide +kernel
theorem dX6_fire_56 : decode cX6_fire 56 = .ok (.aload_n 0, 1) := by decide +kernel
theorem dX6_fire_57 : decode cX6_fire 57 = .ok (.aload_n 0, 1) := by decide +kernel
theorem dX6_fire_58 : decode cX6_fire 58 = .ok (.getfield 7, 3) := by decide +kernel
theorem dX6_fire_61 : decode cX6_fire 61 = .ok (.iload_n 3, 1) := by decide +kernel
theorem dX6_fire_62 : decode cX6_fire 62 = .ok (.iaload, 1) := by decide +kernel
theorem dX6_fire_63 : decode cX6_fire 63 = .ok (.iload_n 1, 1) := by decide +kernel
theorem dX6_fire_64 : decode cX6_fire 64 = .ok (.iload_n 3, 1) := by decide +kernel
theorem dX6_fire_65 : decode cX6_fire 65 = .ok (.invokevirtual 72, 3) := by decide +kernel
theorem dX6_fire_68 : decode cX6_fire 68 = .ok (.iastore, 1) := by decide +kernel
theorem dX6_fire_69 : decode cX6_fire 69 = .ok (.iinc 3 1, 3) := by decide +kernel
theorem dX6_fire_72 : decode cX6_fire 72 = .ok (.goto (-29), 3) := by decide +kernel
theorem dX6_fire_75 : decode cX6_fire 75 = .ok (.aload_n 0, 1) := by decide +kernel
theorem dX6_fire_76 : decode cX6_fire 76 = .ok (.dup, 1) := by decide +kernel
theorem dX6_fire_77 : decode cX6_fire 77 = .ok (.getfield 82, 3) := by decide +kernel
theorem dX6_fire_80 : decode cX6_fire 80 = .ok (.iconst 1, 1) := by decide +kernel
theorem dX6_fire_81 : decode cX6_fire 81 = .ok (.iadd, 1) := by decide +kernel
theorem dX6_fire_82 : decode cX6_fire 82 = .ok (.putfield 82, 3) := by decide +kernel
theorem dX6_fire_85 : decode cX6_fire 85 = .ok (.aload_n 0, 1) := by decide +kernel
theorem dX6_fire_86 : decode cX6_fire 86 = .ok (.getfield 82, 3) := by decide +kernel
theorem dX6_fire_89 : decode cX6_fire 89 = .ok (.ireturn, 1) := by decide +kernel
theorem dX6_findAfter_0 : decode cX6_findAfter 0 = .ok (.iconst 0, 1) := by decide +kernel
theorem dX6_findAfter_1 : decode cX6_findAfter 1 = .ok (.istore 4, 2) := by decide +kernel
theorem dX6_findAfter_3 : decode cX6_findAfter 3 = .ok (.iload 4, 2) := by decide +kernel
theorem dX6_findAfter_5 : decode cX6_findAfter 5 = .ok (.aload_n 0, 1) := by decide +kernel
theorem dX6_findAfter_6 : decode cX6_findAfter 6 = .ok (.getfield 48, 3) := by decide +kernel
theorem dX6_findAfter_9 : decode cX6_findAfter 9 = .ok (.if_icmp .ge 40, 3) := by decide +kernel
theorem dX6_findAfter_12 : decode cX6_findAfter 12 = .ok (.aload_n 0, 1) := by decide +kernel
theorem dX6_findAfter_13 : decode cX6_findAfter 13 = .ok (.getfield 19, 3) := by decide +kernel
theorem dX6_findAfter_16 : decode cX6_findAfter 16 = .ok (.bipush 6, 2) := by decide +kernel
theorem dX6_findAfter_18 : decode cX6_findAfter 18 = .ok (.iload_n 3, 1) := by decide +kernel
theorem dX6_findAfter_19 : decode cX6_findAfter 19 = .ok (.imul, 1) := by decide +kernel
theorem dX6_findAfter_20 : decode cX6_findAfter 20 = .ok (.iload 4, 2) := by decide +kernel
theorem dX6_findAfter_22 : decode cX6_findAfter 22 = .ok (.iadd, 1) := by decide +kernel
theorem dX6_findAfter_23 : decode cX6_findAfter 23 = .ok (.aload_n 0, 1) := by decide +kernel
theorem dX6_findAfter_24 : decode cX6_findAfter 24 = .ok (.aload_n 0, 1) := by decide +kernel
theorem dX6_findAfter_25 : decode cX6_findAfter 25 = .ok (.getfield 19, 3) := by decide +kernel
theorem dX6_findAfter_28 : decode cX6_findAfter 28 = .ok (.bipush 6, 2) := by decide +kernel
theorem dX6_findAfter_30 : decode cX6_findAfter 30 = .ok (.iload_n 1, 1) := by decide +kernel
theorem dX6_findAfter_31 : decode cX6_findAfter 31 = .ok (.imul, 1) := by decide +kernel
theorem dX6_findAfter_32 : decode cX6_findAfter 32 = .ok (.iload 4, 2) := by decide +kernel
theorem dX6_findAfter_34 : decode cX6_findAfter 34 = .ok (.iadd, 1) := by decide +kernel
theorem dX6_findAfter_35 : decode cX6_findAfter 35 = .ok (.iaload, 1) := by decide +kernel
theorem dX6_findAfter_36 : decode cX6_findAfter 36 = .ok (.iload_n 2, 1) := by decide +kernel
theorem dX6_findAfter_37 : decode cX6_findAfter 37 = .ok (.iload 4, 2) := by decide +kernel
theorem dX6_findAfter_39 : decode cX6_findAfter 39 = .ok (.invokevirtual 72, 3) := by decide +kernel
theorem dX6_findAfter_42 : decode cX6_findAfter 42 = .ok (.iastore, 1) := by decide +kernel
theorem dX6_findAfter_43 : decode cX6_findAfter 43 = .ok (.iinc 4 1, 3) := by decide +kernel
theorem dX6_findAfter_46 : decode cX6_findAfter 46 = .ok (.goto (-43), 3) := by decide +kernel
theorem dX6_findAfter_49 : decode cX6_findAfter 49 = .ok (.iconst 0, 1) := by decide +kernel
theorem dX6_findAfter_50 : decode cX6_findAfter 50 = .ok (.istore 4, 2) := by decide +kernel
theorem dX6_findAfter_52 : decode cX6_findAfter 52 = .ok (.aload_n 0, 1) := by decide +kernel
theorem dX6_findAfter_53 : decode cX6_findAfter 53 = .ok (.iload 4, 2) := by decide +kernel
theorem dX6_findAfter_55 : decode cX6_findAfter 55 = .ok (.iload_n 3, 1) := by decide +kernel
theorem dX6_findAfter_56 : decode cX6_findAfter 56 = .ok (.invokevirtual 85, 3) := by decide +kernel
theorem dX6_findAfter_59 : decode cX6_findAfter 59 = .ok (.ifCond .ne 9, 3) := by decide +kernel
theorem dX6_findAfter_62 : decode cX6_findAfter 62 = .ok (.iinc 4 1, 3) := by decide +kernel
theorem dX6_findAfter_65 : decode cX6_findAfter 65 = .ok (.goto (-13), 3) := by decide +kernel
theorem dX6_findAfter_68 : decode cX6_findAfter 68 = .ok (.iload 4, 2) := by decide +kernel
theorem dX6_findAfter_70 : decode cX6_findAfter 70 = .ok (.ireturn, 1) := by decide +kernel
theorem dX6_isAlike_0 : decode cX6_isAlike 0 = .ok (.iconst 1, 1) := by decide +kernel
theorem dX6_isAlike_1 : decode cX6_isAlike 1 = .ok (.istore_n 3, 1) := by decide +kernel
theorem dX6_isAlike_2 : decode cX6_isAlike 2 = .ok (.iconst 0, 1) := by decide +kernel
theorem dX6_isAlike_3 : decode cX6_isAlike 3 = .ok (.istore 4, 2) := by decide +kernel
theorem dX6_isAlike_5 : decode cX6_isAlike 5 = .ok (.iload 4, 2) := by decide +kernel
theorem dX6_isAlike_7 : decode cX6_isAlike 7 = .ok (.aload_n 0, 1) := by decide +kernel
theorem dX6_isAlike_8 : decode cX6_isAlike 8 = .ok (.getfield 48, 3) := by decide +kernel
theorem dX6_isAlike_11 : decode cX6_isAlike 11 = .ok (.if_icmp .ge 46, 3) := by decide +kernel
theorem dX6_isAlike_14 : decode cX6_isAlike 14 = .ok (.iload_n 3, 1) := by decide +kernel
theorem dX6_isAlike_15 : decode cX6_isAlike 15 = .ok (.ifCond .eq 34, 3) := by decide +kernel
theorem dX6_isAlike_18 : decode cX6_isAlike 18 = .ok (.aload_n 0, 1) := by decide +kernel
theorem dX6_isAlike_19 : decode cX6_isAlike 19 = .ok (.getfield 19, 3) := by decide +kernel
theorem dX6_isAlike_22 : decode cX6_isAlike 22 = .ok (.bipush 6, 2) := by decide +kernel
theorem dX6_isAlike_24 : decode cX6_isAlike 24 = .ok (.iload_n 1, 1) := by decide +kernel
theorem dX6_isAlike_25 : decode cX6_isAlike 25 = .ok (.imul, 1) := by decide +kernel
theorem dX6_isAlike_26 : decode cX6_isAlike 26 = .ok (.iload 4, 2) := by decide +kernel
theorem dX6_isAlike_28 : decode cX6_isAlike 28 = .ok (.iadd, 1) := by decide +kernel
theorem dX6_isAlike_29 : decode cX6_isAlike 29 = .ok (.iaload, 1) := by decide +kernel
theorem dX6_isAlike_30 : decode cX6_isAlike 30 = .ok (.aload_n 0, 1) := by decide +kernel
theorem dX6_isAlike_31 : decode cX6_isAlike 31 = .ok (.getfield 19, 3) := by decide +kernel
theorem dX6_isAlike_34 : decode cX6_isAlike 34 = .ok (.bipush 6, 2) := by decide +kernel
theorem dX6_isAlike_36 : decode cX6_isAlike 36 = .ok (.iload_n 2, 1) := by decide +kernel
theorem dX6_isAlike_37 : decode cX6_isAlike 37 = .ok (.imul, 1) := by decide +kernel
theorem dX6_isAlike_38 : decode cX6_isAlike 38 = .ok (.iload 4, 2) := by decide +kernel
theorem dX6_isAlike_40 : decode cX6_isAlike 40 = .ok (.iadd, 1) := by decide +kernel
theorem dX6_isAlike_41 : decode cX6_isAlike 41 = .ok (.iaload, 1) := by decide +kernel
theorem dX6_isAlike_42 : decode cX6_isAlike 42 = .ok (.if_icmp .ne 7, 3) := by decide +kernel
theorem dX6_isAlike_45 : decode cX6_isAlike 45 = .ok (.iconst 1, 1) := by decide +kernel
theorem dX6_isAlike_46 : decode cX6_isAlike 46 = .ok (.goto 4, 3) := by decide +kernel
theorem dX6_isAlike_49 : decode cX6_isAlike 49 = .ok (.iconst 0, 1) := by decide +kernel
theorem dX6_isAlike_50 : decode cX6_isAlike 50 = .ok (.istore_n 3, 1) := by decide +kernel
theorem dX6_isAlike_51 : decode cX6_isAlike 51 = .ok (.iinc 4 1, 3) := by decide +kernel
theorem dX6_isAlike_54 : decode cX6_isAlike 54 = .ok (.goto (-49), 3) := by decide +kernel
theorem dX6_isAlike_57 : decode cX6_isAlike 57 = .ok (.iload_n 3, 1) := by decide +kernel
theorem dX6_isAlike_58 : decode cX6_isAlike 58 = .ok (.ireturn, 1) := by decide +kernel
theorem dX6_findAll_0 : decode cX6_findAll 0 = .ok (.aload_n 0, 1) := by decide +kernel
theorem dX6_findAll_1 : decode cX6_findAll 1 = .ok (.invokevirtual 75, 3) := by decide +kernel
theorem dX6_findAll_4 : decode cX6_findAll 4 = .ok (.aload_n 0, 1) := by decide +kernel
theorem dX6_findAll_5 : decode cX6_findAll 5 = .ok (.getfield 22, 3) := by decide +kernel
theorem dX6_findAll_8 : decode cX6_findAll 8 = .ok (.iconst 0, 1) := by decide +kernel
theorem dX6_findAll_9 : decode cX6_findAll 9 = .ok (.iconst (-1), 1) := by decide +kernel
theorem dX6_findAll_10 : decode cX6_findAll 10 = .ok (.iastore, 1) := by decide +kernel
theorem dX6_findAll_11 : decode cX6_findAll 11 = .ok (.iconst 1, 1) := by decide +kernel
theorem dX6_findAll_12 : decode cX6_findAll 12 = .ok (.istore_n 1, 1) := by decide +kernel
theorem dX6_findAll_13 : decode cX6_findAll 13 = .ok (.iconst 0, 1) := by decide +kernel
theorem dX6_findAll_14 : decode cX6_findAll 14 = .ok (.istore_n 2, 1) := by decide +kernel
theorem dX6_findAll_15 : decode cX6_findAll 15 = .ok (.iload_n 2, 1) := by decide +kernel
theorem dX6_findAll_16 : decode cX6_findAll 16 = .ok (.iload_n 1, 1) := by decide +kernel
theorem dX6_findAll_17 : decode cX6_findAll 17 = .ok (.if_icmp .ge 97, 3) := by decide +kernel
theorem dX6_findAll_20 : decode cX6_findAll 20 = .ok (.iconst 0, 1) := by decide +kernel
theorem dX6_findAll_21 : decode cX6_findAll 21 = .ok (.istore_n 3, 1) := by decide +kernel
theorem dX6_findAll_22 : decode cX6_findAll 22 = .ok (.iload_n 3, 1) := by decide +kernel
theorem dX6_findAll_23 : decode cX6_findAll 23 = .ok (.aload_n 0, 1) := by decide +kernel
theorem dX6_findAll_24 : decode cX6_findAll 24 = .ok (.getfield 55, 3) := by decide +kernel
theorem dX6_findAll_27 : decode cX6_findAll 27 = .ok (.if_icmp .ge 81, 3) := by decide +kernel
theorem dX6_findAll_30 : decode cX6_findAll 30 = .ok (.aload_n 0, 1) := by decide +kernel
theorem dX6_findAll_31 : decode cX6_findAll 31 = .ok (.iload_n 2, 1) := by decide +kernel
theorem dX6_findAll_32 : decode cX6_findAll 32 = .ok (.iload_n 3, 1) := by decide +kernel
theorem dX6_findAll_33 : decode cX6_findAll 33 = .ok (.invokevirtual 78, 3) := by decide +kernel
theorem dX6_findAll_36 : decode cX6_findAll 36 = .ok (.istore 4, 2) := by decide +kernel
theorem dX6_findAll_38 : decode cX6_findAll 38 = .ok (.iload 4, 2) := by decide +kernel
theorem dX6_findAll_40 : decode cX6_findAll 40 = .ok (.ifCond .eq 13, 3) := by decide +kernel
theorem dX6_findAll_43 : decode cX6_findAll 43 = .ok (.aload_n 0, 1) := by decide +kernel
theorem dX6_findAll_44 : decode cX6_findAll 44 = .ok (.iload_n 2, 1) := by decide +kernel
theorem dX6_findAll_45 : decode cX6_findAll 45 = .ok (.iload_n 3, 1) := by decide +kernel
theorem dX6_findAll_46 : decode cX6_findAll 46 = .ok (.iload_n 1, 1) := by decide +kernel
theorem dX6_findAll_47 : decode cX6_findAll 47 = .ok (.invokevirtual 88, 3) := by decide +kernel
theorem dX6_findAll_50 : decode cX6_findAll 50 = .ok (.goto 4, 3) := by decide +kernel
theorem dX6_findAll_53 : decode cX6_findAll 53 = .ok (.iconst (-1), 1) := by decide +kernel
theorem dX6_findAll_54 : decode cX6_findAll 54 = .ok (.istore 5, 2) := by decide +kernel
theorem dX6_findAll_56 : decode cX6_findAll 56 = .ok (.iload 5, 2) := by decide +kernel
theorem dX6_findAll_58 : decode cX6_findAll 58 = .ok (.sipush 300, 3) := by decide +kernel
theorem dX6_findAll_61 : decode cX6_findAll 61 = .ok (.if_icmp .ne 5, 3) := by decide +kernel
theorem dX6_findAll_64 : decode cX6_findAll 64 = .ok (.iconst (-1), 1) := by decide +kernel
theorem dX6_findAll_65 : decode cX6_findAll 65 = .ok (.ireturn, 1) := by decide +kernel
theorem dX6_findAll_66 : decode cX6_findAll 66 = .ok (.aload_n 0, 1) := by decide +kernel
theorem dX6_findAll_67 : decode cX6_findAll 67 = .ok (.getfield 28, 3) := by decide +kernel
theorem dX6_findAll_70 : decode cX6_findAll 70 = .ok (.bipush 8, 2) := by decide +kernel
theorem dX6_findAll_72 : decode cX6_findAll 72 = .ok (.iload_n 2, 1) := by decide +kernel
theorem dX6_findAll_73 : decode cX6_findAll 73 = .ok (.imul, 1) := by decide +kernel
theorem dX6_findAll_74 : decode cX6_findAll 74 = .ok (.iload_n 3, 1) := by decide +kernel
theorem dX6_findAll_75 : decode cX6_findAll 75 = .ok (.iadd, 1) := by decide +kernel
theorem dX6_findAll_76 : decode cX6_findAll 76 = .ok (.iload 5, 2) := by decide +kernel
theorem dX6_findAll_78 : decode cX6_findAll 78 = .ok (.iastore, 1) := by decide +kernel
theorem dX6_findAll_79 : decode cX6_findAll 79 = .ok (.iload 5, 2) := by decide +kernel
theorem dX6_findAll_81 : decode cX6_findAll 81 = .ok (.iload_n 1, 1) := by decide +kernel
theorem dX6_findAll_82 : decode cX6_findAll 82 = .ok (.if_icmp .ne 20, 3) := by decide +kernel
theorem dX6_findAll_85 : decode cX6_findAll 85 = .ok (.aload_n 0, 1) := by decide +kernel
theorem dX6_findAll_86 : decode cX6_findAll 86 = .ok (.getfield 22, 3) := by decide +kernel
theorem dX6_findAll_89 : decode cX6_findAll 89 = .ok (.iload_n 1, 1) := by decide +kernel
theorem dX6_findAll_90 : decode cX6_findAll 90 = .ok (.iload_n 2, 1) := by decide +kernel
theorem dX6_findAll_91 : decode cX6_findAll 91 = .ok (.iastore, 1) := by decide +kernel
theorem dX6_findAll_92 : decode cX6_findAll 92 = .ok (.aload_n 0, 1) := by decide +kernel
theorem dX6_findAll_93 : decode cX6_findAll 93 = .ok (.getfield 25, 3) := by decide +kernel
theorem dX6_findAll_96 : decode cX6_findAll 96 = .ok (.iload_n 1, 1) := by decide +kernel
theorem dX6_findAll_97 : decode cX6_findAll 97 = .ok (.iload_n 3, 1) := by decide +kernel
theorem dX6_findAll_98 : decode cX6_findAll 98 = .ok (.iastore, 1) := by decide +kernel
theorem dX6_findAll_99 : decode cX6_findAll 99 = .ok (.iinc 1 1, 3) := by decide +kernel
theorem dX6_findAll_102 : decode cX6_findAll 102 = .ok (.iinc 3 1, 3) := by decide +kernel
theorem dX6_findAll_105 : decode cX6_findAll 105 = .ok (.goto (-83), 3) := by decide +kernel
theorem dX6_findAll_108 : decode cX6_findAll 108 = .ok (.iinc 2 1, 3) := by decide +kernel
theorem dX6_findAll_111 : decode cX6_findAll 111 = .ok (.goto (-96), 3) := by decide +kernel
theorem dX6_findAll_114 : decode cX6_findAll 114 = .ok (.iload_n 1, 1) := by decide +kernel
theorem dX6_findAll_115 : decode cX6_findAll 115 = .ok (.ireturn, 1) := by decide +kernel
theorem dX6_spread_0 : decode cX6_spread 0 = .ok (.iconst 1, 1) := by decide +kernel
theorem dX6_spread_1 : decode cX6_spread 1 = .ok (.istore_n 2, 1) := by decide +kernel
theorem dX6_spread_2 : decode cX6_spread 2 = .ok (.iload_n 2, 1) := by decide +kernel
theorem dX6_spread_3 : decode cX6_spread 3 = .ok (.ifCond .eq 87, 3) := by decide +kernel
theorem dX6_spread_6 : decode cX6_spread 6 = .ok (.iconst 0, 1) := by decide +kernel
theorem dX6_spread_7 : decode cX6_spread 7 = .ok (.istore_n 2, 1) := by decide +kernel
theorem dX6_spread_8 : decode cX6_spread 8 = .ok (.iconst 0, 1) := by decide +kernel
theorem dX6_spread_9 : decode cX6_spread 9 = .ok (.istore_n 3, 1) := by decide +kernel
theorem dX6_spread_10 : decode cX6_spread 10 = .ok (.iload_n 3, 1) := by decide +kernel
theorem dX6_spread_11 : decode cX6_spread 11 = .ok (.iload_n 1, 1) := by decide +kernel
theorem dX6_spread_12 : decode cX6_spread 12 = .ok (.if_icmp .ge 75, 3) := by decide +kernel
theorem dX6_spread_15 : decode cX6_spread 15 = .ok (.iconst 0, 1) := by decide +kernel
theorem dX6_spread_16 : decode cX6_spread 16 = .ok (.istore 4, 2) := by decide +kernel
theorem dX6_spread_18 : decode cX6_spread 18 = .ok (.iload 4, 2) := by decide +kernel
theorem dX6_spread_20 : decode cX6_spread 20 = .ok (.aload_n 0, 1) := by decide +kernel
theorem dX6_spread_21 : decode cX6_spread 21 = .ok (.getfield 55, 3) := by decide +kernel
theorem dX6_spread_24 : decode cX6_spread 24 = .ok (.if_icmp .ge 57, 3) := by decide +kernel
theorem dX6_spread_27 : decode cX6_spread 27 = .ok (.aload_n 0, 1) := by decide +kernel
theorem dX6_spread_28 : decode cX6_spread 28 = .ok (.getfield 31, 3) := by decide +kernel
theorem dX6_spread_31 : decode cX6_spread 31 = .ok (.iload_n 3, 1) := by decide +kernel
theorem dX6_spread_32 : decode cX6_spread 32 = .ok (.baload, 1) := by decide +kernel
theorem dX6_spread_33 : decode cX6_spread 33 = .ok (.ifCond .ne 48, 3) := by decide +kernel
theorem dX6_spread_36 : decode cX6_spread 36 = .ok (.aload_n 0, 1) := by decide +kernel
theorem dX6_spread_37 : decode cX6_spread 37 = .ok (.getfield 28, 3) := by decide +kernel
theorem dX6_spread_40 : decode cX6_spread 40 = .ok (.bipush 8, 2) := by decide +kernel
theorem dX6_spread_42 : decode cX6_spread 42 = .ok (.iload_n 3, 1) := by decide +kernel
theorem dX6_spread_43 : decode cX6_spread 43 = .ok (.imul, 1) := by decide +kernel
theorem dX6_spread_44 : decode cX6_spread 44 = .ok (.iload 4, 2) := by decide +kernel
theorem dX6_spread_46 : decode cX6_spread 46 = .ok (.iadd, 1) := by decide +kernel
theorem dX6_spread_47 : decode cX6_spread 47 = .ok (.iaload, 1) := by decide +kernel
theorem dX6_spread_48 : decode cX6_spread 48 = .ok (.istore 5, 2) := by decide +kernel
theorem dX6_spread_50 : decode cX6_spread 50 = .ok (.iload 5, 2) := by decide +kernel
theorem dX6_spread_52 : decode cX6_spread 52 = .ok (.iconst (-1), 1) := by decide +kernel
theorem dX6_spread_53 : decode cX6_spread 53 = .ok (.if_icmp .eq 22, 3) := by decide +kernel
theorem dX6_spread_56 : decode cX6_spread 56 = .ok (.aload_n 0, 1) := by decide +kernel
theorem dX6_spread_57 : decode cX6_spread 57 = .ok (.getfield 31, 3) := by decide +kernel
theorem dX6_spread_60 : decode cX6_spread 60 = .ok (.iload 5, 2) := by decide +kernel
theorem dX6_spread_62 : decode cX6_spread 62 = .ok (.baload, 1) := by decide +kernel
theorem dX6_spread_63 : decode cX6_spread 63 = .ok (.ifCond .eq 12, 3) := by decide +kernel
theorem dX6_spread_66 : decode cX6_spread 66 = .ok (.aload_n 0, 1) := by decide +kernel
theorem dX6_spread_67 : decode cX6_spread 67 = .ok (.getfield 31, 3) := by decide +kernel
theorem dX6_spread_70 : decode cX6_spread 70 = .ok (.iload_n 3, 1) := by decide +kernel
theorem dX6_spread_71 : decode cX6_spread 71 = .ok (.iconst 1, 1) := by decide +kernel
theorem dX6_spread_72 : decode cX6_spread 72 = .ok (.bastore, 1) := by decide +kernel
theorem dX6_spread_73 : decode cX6_spread 73 = .ok (.iconst 1, 1) := by decide +kernel
theorem dX6_spread_74 : decode cX6_spread 74 = .ok (.istore_n 2, 1) := by decide +kernel
theorem dX6_spread_75 : decode cX6_spread 75 = .ok (.iinc 4 1, 3) := by decide +kernel
theorem dX6_spread_78 : decode cX6_spread 78 = .ok (.goto (-60), 3) := by decide +kernel
theorem dX6_spread_81 : decode cX6_spread 81 = .ok (.iinc 3 1, 3) := by decide +kernel
theorem dX6_spread_84 : decode cX6_spread 84 = .ok (.goto (-74), 3) := by decide +kernel
theorem dX6_spread_87 : decode cX6_spread 87 = .ok (.goto (-85), 3) := by decide +kernel
theorem dX6_spread_90 : decode cX6_spread 90 = .ok (.return_, 1) := by decide +kernel
theorem dX6_allCome_0 : decode cX6_allCome 0 = .ok (.iconst 1, 1) := by decide +kernel
theorem dX6_allCome_1 : decode cX6_allCome 1 = .ok (.istore_n 2, 1) := by decide +kernel
theorem dX6_allCome_2 : decode cX6_allCome 2 = .ok (.iconst 0, 1) := by decide +kernel
theorem dX6_allCome_3 : decode cX6_allCome 3 = .ok (.istore_n 3, 1) := by decide +kernel
theorem dX6_allCome_4 : decode cX6_allCome 4 = .ok (.iload_n 3, 1) := by decide +kernel
theorem dX6_allCome_5 : decode cX6_allCome 5 = .ok (.iload_n 1, 1) := by decide +kernel
theorem dX6_allCome_6 : decode cX6_allCome 6 = .ok (.if_icmp .ge 28, 3) := by decide +kernel
theorem dX6_allCome_9 : decode cX6_allCome 9 = .ok (.iload_n 2, 1) := by decide +kernel
theorem dX6_allCome_10 : decode cX6_allCome 10 = .ok (.ifCond .eq 16, 3) := by decide +kernel
theorem dX6_allCome_13 : decode cX6_allCome 13 = .ok (.aload_n 0, 1) := by decide +kernel
theorem dX6_allCome_14 : decode cX6_allCome 14 = .ok (.getfield 31, 3) := by decide +kernel
theorem dX6_allCome_17 : decode cX6_allCome 17 = .ok (.iload_n 3, 1) := by decide +kernel
theorem dX6_allCome_18 : decode cX6_allCome 18 = .ok (.baload, 1) := by decide +kernel
theorem dX6_allCome_19 : decode cX6_allCome 19 = .ok (.ifCond .eq 7, 3) := by decide +kernel
theorem dX6_allCome_22 : decode cX6_allCome 22 = .ok (.iconst 1, 1) := by decide +kernel
theorem dX6_allCome_23 : decode cX6_allCome 23 = .ok (.goto 4, 3) := by decide +kernel
theorem dX6_allCome_26 : decode cX6_allCome 26 = .ok (.iconst 0, 1) := by decide +kernel
theorem dX6_allCome_27 : decode cX6_allCome 27 = .ok (.istore_n 2, 1) := by decide +kernel
theorem dX6_allCome_28 : decode cX6_allCome 28 = .ok (.iinc 3 1, 3) := by decide +kernel
theorem dX6_allCome_31 : decode cX6_allCome 31 = .ok (.goto (-27), 3) := by decide +kernel
theorem dX6_allCome_34 : decode cX6_allCome 34 = .ok (.iload_n 2, 1) := by decide +kernel
theorem dX6_allCome_35 : decode cX6_allCome 35 = .ok (.ireturn, 1) := by decide +kernel
theorem dX6_outOf_0 : decode cX6_outOf 0 = .ok (.iconst 0, 1) := by decide +kernel
theorem dX6_outOf_1 : decode cX6_outOf 1 = .ok (.istore_n 2, 1) := by decide +kernel
theorem dX6_outOf_2 : decode cX6_outOf 2 = .ok (.iconst 0, 1) := by decide +kernel
theorem dX6_outOf_3 : decode cX6_outOf 3 = .ok (.istore_n 3, 1) := by decide +kernel
theorem dX6_outOf_4 : decode cX6_outOf 4 = .ok (.iload_n 3, 1) := by decide +kernel
theorem dX6_outOf_5 : decode cX6_outOf 5 = .ok (.aload_n 0, 1) := by decide +kernel
theorem dX6_outOf_6 : decode cX6_outOf 6 = .ok (.getfield 55, 3) := by decide +kernel
theorem dX6_outOf_9 : decode cX6_outOf 9 = .ok (.if_icmp .ge 32, 3) := by decide +kernel
theorem dX6_outOf_12 : decode cX6_outOf 12 = .ok (.iload_n 2, 1) := by decide +kernel
theorem dX6_outOf_13 : decode cX6_outOf 13 = .ok (.aload_n 0, 1) := by decide +kernel
theorem dX6_outOf_14 : decode cX6_outOf 14 = .ok (.getfield 28, 3) := by decide +kernel
theorem dX6_outOf_17 : decode cX6_outOf 17 = .ok (.bipush 8, 2) := by decide +kernel
theorem dX6_outOf_19 : decode cX6_outOf 19 = .ok (.iload_n 1, 1) := by decide +kernel
theorem dX6_outOf_20 : decode cX6_outOf 20 = .ok (.imul, 1) := by decide +kernel
theorem dX6_outOf_21 : decode cX6_outOf 21 = .ok (.iload_n 3, 1) := by decide +kernel
theorem dX6_outOf_22 : decode cX6_outOf 22 = .ok (.iadd, 1) := by decide +kernel
theorem dX6_outOf_23 : decode cX6_outOf 23 = .ok (.iaload, 1) := by decide +kernel
theorem dX6_outOf_24 : decode cX6_outOf 24 = .ok (.iconst (-1), 1) := by decide +kernel
theorem dX6_outOf_25 : decode cX6_outOf 25 = .ok (.if_icmp .eq 7, 3) := by decide +kernel
theorem dX6_outOf_28 : decode cX6_outOf 28 = .ok (.iconst 1, 1) := by decide +kernel
theorem dX6_outOf_29 : decode cX6_outOf 29 = .ok (.goto 4, 3) := by decide +kernel
theorem dX6_outOf_32 : decode cX6_outOf 32 = .ok (.iconst 0, 1) := by decide +kernel
theorem dX6_outOf_33 : decode cX6_outOf 33 = .ok (.iadd, 1) := by decide +kernel
theorem dX6_outOf_34 : decode cX6_outOf 34 = .ok (.istore_n 2, 1) := by decide +kernel
theorem dX6_outOf_35 : decode cX6_outOf 35 = .ok (.iinc 3 1, 3) := by decide +kernel
theorem dX6_outOf_38 : decode cX6_outOf 38 = .ok (.goto (-34), 3) := by decide +kernel
theorem dX6_outOf_41 : decode cX6_outOf 41 = .ok (.iload_n 2, 1) := by decide +kernel
theorem dX6_outOf_42 : decode cX6_outOf 42 = .ok (.ireturn, 1) := by decide +kernel
theorem dX6_graph_0 : decode cX6_graph 0 = .ok (.aload_n 0, 1) := by decide +kernel
theorem dX6_graph_1 : decode cX6_graph 1 = .ok (.iload_n 1, 1) := by decide +kernel
theorem dX6_graph_2 : decode cX6_graph 2 = .ok (.iconst 0, 1) := by decide +kernel
theorem dX6_graph_3 : decode cX6_graph 3 = .ok (.iconst 3, 1) := by decide +kernel
theorem dX6_graph_4 : decode cX6_graph 4 = .ok (.invokestatic 51, 3) := by decide +kernel
theorem dX6_graph_7 : decode cX6_graph 7 = .ok (.ifCond .eq 7, 3) := by decide +kernel
theorem dX6_graph_10 : decode cX6_graph 10 = .ok (.iconst 0, 1) := by decide +kernel
theorem dX6_graph_11 : decode cX6_graph 11 = .ok (.goto 4, 3) := by decide +kernel
theorem dX6_graph_14 : decode cX6_graph 14 = .ok (.iconst 1, 1) := by decide +kernel
theorem dX6_graph_15 : decode cX6_graph 15 = .ok (.invokevirtual 58, 3) := by decide +kernel
theorem dX6_graph_18 : decode cX6_graph 18 = .ok (.ifCond .ne 5, 3) := by decide +kernel
theorem dX6_graph_21 : decode cX6_graph 21 = .ok (.iconst 0, 1) := by decide +kernel
theorem dX6_graph_22 : decode cX6_graph 22 = .ok (.ireturn, 1) := by decide +kernel
theorem dX6_graph_23 : decode cX6_graph 23 = .ok (.aload_n 0, 1) := by decide +kernel
theorem dX6_graph_24 : decode cX6_graph 24 = .ok (.invokevirtual 91, 3) := by decide +kernel
theorem dX6_graph_27 : decode cX6_graph 27 = .ok (.istore_n 2, 1) := by decide +kernel
theorem dX6_graph_28 : decode cX6_graph 28 = .ok (.iload_n 2, 1) := by decide +kernel
theorem dX6_graph_29 : decode cX6_graph 29 = .ok (.iconst (-1), 1) := by decide +kernel
theorem dX6_graph_30 : decode cX6_graph 30 = .ok (.if_icmp .eq 7, 3) := by decide +kernel
theorem dX6_graph_33 : decode cX6_graph 33 = .ok (.iload_n 1, 1) := by decide +kernel
theorem dX6_graph_34 : decode cX6_graph 34 = .ok (.ifCond .ne 5, 3) := by decide +kernel
theorem dX6_graph_37 : decode cX6_graph 37 = .ok (.iload_n 2, 1) := by decide +kernel
theorem dX6_graph_38 : decode cX6_graph 38 = .ok (.ireturn, 1) := by decide +kernel
theorem dX6_graph_39 : decode cX6_graph 39 = .ok (.iconst 0, 1) := by decide +kernel
theorem dX6_graph_40 : decode cX6_graph 40 = .ok (.istore_n 3, 1) := by decide +kernel
theorem dX6_graph_41 : decode cX6_graph 41 = .ok (.iconst 0, 1) := by decide +kernel
theorem dX6_graph_42 : decode cX6_graph 42 = .ok (.istore 4, 2) := by decide +kernel
theorem dX6_graph_44 : decode cX6_graph 44 = .ok (.iconst 0, 1) := by decide +kernel
theorem dX6_graph_45 : decode cX6_graph 45 = .ok (.istore 5, 2) := by decide +kernel
theorem dX6_graph_47 : decode cX6_graph 47 = .ok (.iload 5, 2) := by decide +kernel
theorem dX6_graph_49 : decode cX6_graph 49 = .ok (.iload_n 2, 1) := by decide +kernel
theorem dX6_graph_50 : decode cX6_graph 50 = .ok (.if_icmp .ge 54, 3) := by decide +kernel
theorem dX6_graph_53 : decode cX6_graph 53 = .ok (.iload_n 3, 1) := by decide +kernel
theorem dX6_graph_54 : decode cX6_graph 54 = .ok (.aload_n 0, 1) := by decide +kernel
theorem dX6_graph_55 : decode cX6_graph 55 = .ok (.iload 5, 2) := by decide +kernel
theorem dX6_graph_57 : decode cX6_graph 57 = .ok (.invokevirtual 95, 3) := by decide +kernel
theorem dX6_graph_60 : decode cX6_graph 60 = .ok (.iadd, 1) := by decide +kernel
theorem dX6_graph_61 : decode cX6_graph 61 = .ok (.istore_n 3, 1) := by decide +kernel
theorem dX6_graph_62 : decode cX6_graph 62 = .ok (.iload 4, 2) := by decide +kernel
theorem dX6_graph_64 : decode cX6_graph 64 = .ok (.aload_n 0, 1) := by decide +kernel
theorem dX6_graph_65 : decode cX6_graph 65 = .ok (.iload 5, 2) := by decide +kernel
theorem dX6_graph_67 : decode cX6_graph 67 = .ok (.invokevirtual 95, 3) := by decide +kernel
theorem dX6_graph_70 : decode cX6_graph 70 = .ok (.ifCond .ne 7, 3) := by decide +kernel
theorem dX6_graph_73 : decode cX6_graph 73 = .ok (.iconst 1, 1) := by decide +kernel
theorem dX6_graph_74 : decode cX6_graph 74 = .ok (.goto 4, 3) := by decide +kernel
theorem dX6_graph_77 : decode cX6_graph 77 = .ok (.iconst 0, 1) := by decide +kernel
theorem dX6_graph_78 : decode cX6_graph 78 = .ok (.iadd, 1) := by decide +kernel
theorem dX6_graph_79 : decode cX6_graph 79 = .ok (.istore 4, 2) := by decide +kernel
theorem dX6_graph_81 : decode cX6_graph 81 = .ok (.aload_n 0, 1) := by decide +kernel
theorem dX6_graph_82 : decode cX6_graph 82 = .ok (.getfield 31, 3) := by decide +kernel
theorem dX6_graph_85 : decode cX6_graph 85 = .ok (.iload 5, 2) := by decide +kernel
theorem dX6_graph_87 : decode cX6_graph 87 = .ok (.iload 5, 2) := by decide +kernel
theorem dX6_graph_89 : decode cX6_graph 89 = .ok (.ifCond .ne 7, 3) := by decide +kernel
theorem dX6_graph_92 : decode cX6_graph 92 = .ok (.iconst 1, 1) := by decide +kernel
theorem dX6_graph_93 : decode cX6_graph 93 = .ok (.goto 4, 3) := by decide +kernel
theorem dX6_graph_96 : decode cX6_graph 96 = .ok (.iconst 0, 1) := by decide +kernel
theorem dX6_graph_97 : decode cX6_graph 97 = .ok (.bastore, 1) := by decide +kernel
theorem dX6_graph_98 : decode cX6_graph 98 = .ok (.iinc 5 1, 3) := by decide +kernel
theorem dX6_graph_101 : decode cX6_graph 101 = .ok (.goto (-54), 3) := by decide +kernel
theorem dX6_graph_104 : decode cX6_graph 104 = .ok (.aload_n 0, 1) := by decide +kernel
theorem dX6_graph_105 : decode cX6_graph 105 = .ok (.iload_n 2, 1) := by decide +kernel
theorem dX6_graph_106 : decode cX6_graph 106 = .ok (.invokevirtual 99, 3) := by decide +kernel
theorem dX6_graph_109 : decode cX6_graph 109 = .ok (.iload_n 1, 1) := by decide +kernel
theorem dX6_graph_110 : decode cX6_graph 110 = .ok (.iconst 1, 1) := by decide +kernel
theorem dX6_graph_111 : decode cX6_graph 111 = .ok (.if_icmp .ne 7, 3) := by decide +kernel
theorem dX6_graph_114 : decode cX6_graph 114 = .ok (.iload_n 3, 1) := by decide +kernel
theorem dX6_graph_115 : decode cX6_graph 115 = .ok (.goto 26, 3) := by decide +kernel
theorem dX6_graph_118 : decode cX6_graph 118 = .ok (.iload_n 1, 1) := by decide +kernel
theorem dX6_graph_119 : decode cX6_graph 119 = .ok (.iconst 2, 1) := by decide +kernel
theorem dX6_graph_120 : decode cX6_graph 120 = .ok (.if_icmp .ne 8, 3) := by decide +kernel
theorem dX6_graph_123 : decode cX6_graph 123 = .ok (.iload 4, 2) := by decide +kernel
theorem dX6_graph_125 : decode cX6_graph 125 = .ok (.goto 16, 3) := by decide +kernel
theorem dX6_graph_128 : decode cX6_graph 128 = .ok (.aload_n 0, 1) := by decide +kernel
theorem dX6_graph_129 : decode cX6_graph 129 = .ok (.iload_n 2, 1) := by decide +kernel
theorem dX6_graph_130 : decode cX6_graph 130 = .ok (.invokevirtual 103, 3) := by decide +kernel
theorem dX6_graph_133 : decode cX6_graph 133 = .ok (.ifCond .eq 7, 3) := by decide +kernel
theorem dX6_graph_136 : decode cX6_graph 136 = .ok (.iconst 1, 1) := by decide +kernel
theorem dX6_graph_137 : decode cX6_graph 137 = .ok (.goto 4, 3) := by decide +kernel
theorem dX6_graph_140 : decode cX6_graph 140 = .ok (.iconst 0, 1) := by decide +kernel
theorem dX6_graph_141 : decode cX6_graph 141 = .ok (.ireturn, 1) := by decide +kernel
theorem dX6_marking_0 : decode cX6_marking 0 = .ok (.aload_n 0, 1) := by decide +kernel
theorem dX6_marking_1 : decode cX6_marking 1 = .ok (.iload_n 2, 1) := by decide +kernel
theorem dX6_marking_2 : decode cX6_marking 2 = .ok (.invokevirtual 65, 3) := by decide +kernel
theorem dX6_marking_5 : decode cX6_marking 5 = .ok (.istore_n 3, 1) := by decide +kernel
theorem dX6_marking_6 : decode cX6_marking 6 = .ok (.aload_n 0, 1) := by decide +kernel
theorem dX6_marking_7 : decode cX6_marking 7 = .ok (.iload_n 3, 1) := by decide +kernel
theorem dX6_marking_8 : decode cX6_marking 8 = .ok (.ifCond .ne 7, 3) := by decide +kernel
theorem dX6_marking_11 : decode cX6_marking 11 = .ok (.iconst 1, 1) := by decide +kernel
theorem dX6_marking_12 : decode cX6_marking 12 = .ok (.goto 12, 3) := by decide +kernel
theorem dX6_marking_15 : decode cX6_marking 15 = .ok (.iload_n 1, 1) := by decide +kernel
theorem dX6_marking_16 : decode cX6_marking 16 = .ok (.ifCond .lt 7, 3) := by decide +kernel
theorem dX6_marking_19 : decode cX6_marking 19 = .ok (.iconst 0, 1) := by decide +kernel
theorem dX6_marking_20 : decode cX6_marking 20 = .ok (.goto 4, 3) := by decide +kernel
theorem dX6_marking_23 : decode cX6_marking 23 = .ok (.iconst 2, 1) := by decide +kernel
theorem dX6_marking_24 : decode cX6_marking 24 = .ok (.invokevirtual 58, 3) := by decide +kernel
theorem dX6_marking_27 : decode cX6_marking 27 = .ok (.ifCond .ne 5, 3) := by decide +kernel
theorem dX6_marking_30 : decode cX6_marking 30 = .ok (.iconst 0, 1) := by decide +kernel
theorem dX6_marking_31 : decode cX6_marking 31 = .ok (.ireturn, 1) := by decide +kernel
theorem dX6_marking_32 : decode cX6_marking 32 = .ok (.aload_n 0, 1) := by decide +kernel
theorem dX6_marking_33 : decode cX6_marking 33 = .ok (.invokevirtual 91, 3) := by decide +kernel
theorem dX6_marking_36 : decode cX6_marking 36 = .ok (.istore 4, 2) := by decide +kernel
theorem dX6_marking_38 : decode cX6_marking 38 = .ok (.iload_n 1, 1) := by decide +kernel
theorem dX6_marking_39 : decode cX6_marking 39 = .ok (.iload 4, 2) := by decide +kernel
theorem dX6_marking_41 : decode cX6_marking 41 = .ok (.if_icmp .ge 17, 3) := by decide +kernel
theorem dX6_marking_44 : decode cX6_marking 44 = .ok (.aload_n 0, 1) := by decide +kernel
theorem dX6_marking_45 : decode cX6_marking 45 = .ok (.getfield 19, 3) := by decide +kernel
theorem dX6_marking_48 : decode cX6_marking 48 = .ok (.bipush 6, 2) := by decide +kernel
theorem dX6_marking_50 : decode cX6_marking 50 = .ok (.iload_n 1, 1) := by decide +kernel
theorem dX6_marking_51 : decode cX6_marking 51 = .ok (.imul, 1) := by decide +kernel
theorem dX6_marking_52 : decode cX6_marking 52 = .ok (.iload_n 2, 1) := by decide +kernel
theorem dX6_marking_53 : decode cX6_marking 53 = .ok (.iadd, 1) := by decide +kernel
theorem dX6_marking_54 : decode cX6_marking 54 = .ok (.iaload, 1) := by decide +kernel
theorem dX6_marking_55 : decode cX6_marking 55 = .ok (.goto 4, 3) := by decide +kernel
theorem dX6_marking_58 : decode cX6_marking 58 = .ok (.iconst (-1), 1) := by decide +kernel
theorem dX6_marking_59 : decode cX6_marking 59 = .ok (.ireturn, 1) := by decide +kernel
theorem dX6_mostOf_0 : decode cX6_mostOf 0 = .ok (.iconst (-1), 1) := by decide +kernel
theorem dX6_mostOf_1 : decode cX6_mostOf 1 = .ok (.istore_n 3, 1) := by decide +kernel
theorem dX6_mostOf_2 : decode cX6_mostOf 2 = .ok (.iconst 0, 1) := by decide +kernel
theorem dX6_mostOf_3 : decode cX6_mostOf 3 = .ok (.istore 4, 2) := by decide +kernel
theorem dX6_mostOf_5 : decode cX6_mostOf 5 = .ok (.iload 4, 2) := by decide +kernel
theorem dX6_mostOf_7 : decode cX6_mostOf 7 = .ok (.iload_n 2, 1) := by decide +kernel
theorem dX6_mostOf_8 : decode cX6_mostOf 8 = .ok (.if_icmp .ge 42, 3) := by decide +kernel
theorem dX6_mostOf_11 : decode cX6_mostOf 11 = .ok (.aload_n 0, 1) := by decide +kernel
theorem dX6_mostOf_12 : decode cX6_mostOf 12 = .ok (.getfield 19, 3) := by decide +kernel
theorem dX6_mostOf_15 : decode cX6_mostOf 15 = .ok (.bipush 6, 2) := by decide +kernel
theorem dX6_mostOf_17 : decode cX6_mostOf 17 = .ok (.iload 4, 2) := by decide +kernel
theorem dX6_mostOf_19 : decode cX6_mostOf 19 = .ok (.imul, 1) := by decide +kernel
theorem dX6_mostOf_20 : decode cX6_mostOf 20 = .ok (.iload_n 1, 1) := by decide +kernel
theorem dX6_mostOf_21 : decode cX6_mostOf 21 = .ok (.iadd, 1) := by decide +kernel
theorem dX6_mostOf_22 : decode cX6_mostOf 22 = .ok (.iaload, 1) := by decide +kernel
theorem dX6_mostOf_23 : decode cX6_mostOf 23 = .ok (.iload_n 3, 1) := by decide +kernel
theorem dX6_mostOf_24 : decode cX6_mostOf 24 = .ok (.if_icmp .le 18, 3) := by decide +kernel
theorem dX6_mostOf_27 : decode cX6_mostOf 27 = .ok (.aload_n 0, 1) := by decide +kernel
theorem dX6_mostOf_28 : decode cX6_mostOf 28 = .ok (.getfield 19, 3) := by decide +kernel
theorem dX6_mostOf_31 : decode cX6_mostOf 31 = .ok (.bipush 6, 2) := by decide +kernel
theorem dX6_mostOf_33 : decode cX6_mostOf 33 = .ok (.iload 4, 2) := by decide +kernel
theorem dX6_mostOf_35 : decode cX6_mostOf 35 = .ok (.imul, 1) := by decide +kernel
theorem dX6_mostOf_36 : decode cX6_mostOf 36 = .ok (.iload_n 1, 1) := by decide +kernel
theorem dX6_mostOf_37 : decode cX6_mostOf 37 = .ok (.iadd, 1) := by decide +kernel
theorem dX6_mostOf_38 : decode cX6_mostOf 38 = .ok (.iaload, 1) := by decide +kernel
theorem dX6_mostOf_39 : decode cX6_mostOf 39 = .ok (.goto 4, 3) := by decide +kernel
theorem dX6_mostOf_42 : decode cX6_mostOf 42 = .ok (.iload_n 3, 1) := by decide +kernel
theorem dX6_mostOf_43 : decode cX6_mostOf 43 = .ok (.istore_n 3, 1) := by decide +kernel
theorem dX6_mostOf_44 : decode cX6_mostOf 44 = .ok (.iinc 4 1, 3) := by decide +kernel
theorem dX6_mostOf_47 : decode cX6_mostOf 47 = .ok (.goto (-42), 3) := by decide +kernel
theorem dX6_mostOf_50 : decode cX6_mostOf 50 = .ok (.iload_n 3, 1) := by decide +kernel
theorem dX6_mostOf_51 : decode cX6_mostOf 51 = .ok (.ireturn, 1) := by decide +kernel
theorem dX6_most_0 : decode cX6_most 0 = .ok (.aload_n 0, 1) := by decide +kernel
theorem dX6_most_1 : decode cX6_most 1 = .ok (.aload_n 0, 1) := by decide +kernel
theorem dX6_most_2 : decode cX6_most 2 = .ok (.iload_n 1, 1) := by decide +kernel
theorem dX6_most_3 : decode cX6_most 3 = .ok (.invokevirtual 65, 3) := by decide +kernel
theorem dX6_most_6 : decode cX6_most 6 = .ok (.ifCond .eq 7, 3) := by decide +kernel
theorem dX6_most_9 : decode cX6_most 9 = .ok (.iconst 0, 1) := by decide +kernel
theorem dX6_most_10 : decode cX6_most 10 = .ok (.goto 4, 3) := by decide +kernel
theorem dX6_most_13 : decode cX6_most 13 = .ok (.iconst 1, 1) := by decide +kernel
theorem dX6_most_14 : decode cX6_most 14 = .ok (.invokevirtual 58, 3) := by decide +kernel
theorem dX6_most_17 : decode cX6_most 17 = .ok (.ifCond .eq 15, 3) := by decide +kernel
theorem dX6_most_20 : decode cX6_most 20 = .ok (.aload_n 0, 1) := by decide +kernel
theorem dX6_most_21 : decode cX6_most 21 = .ok (.iload_n 1, 1) := by decide +kernel
theorem dX6_most_22 : decode cX6_most 22 = .ok (.aload_n 0, 1) := by decide +kernel
theorem dX6_most_23 : decode cX6_most 23 = .ok (.invokevirtual 91, 3) := by decide +kernel
theorem dX6_most_26 : decode cX6_most 26 = .ok (.invokevirtual 106, 3) := by decide +kernel
theorem dX6_most_29 : decode cX6_most 29 = .ok (.goto 4, 3) := by decide +kernel
theorem dX6_most_32 : decode cX6_most 32 = .ok (.iconst 0, 1) := by decide +kernel
theorem dX6_most_33 : decode cX6_most 33 = .ok (.ireturn, 1) := by decide +kernel
theorem dX6_level_0 : decode cX6_level 0 = .ok (.aload_n 0, 1) := by decide +kernel
theorem dX6_level_1 : decode cX6_level 1 = .ok (.aload_n 0, 1) := by decide +kernel
theorem dX6_level_2 : decode cX6_level 2 = .ok (.iload_n 1, 1) := by decide +kernel
theorem dX6_level_3 : decode cX6_level 3 = .ok (.invokevirtual 62, 3) := by decide +kernel
theorem dX6_level_6 : decode cX6_level 6 = .ok (.ifCond .eq 7, 3) := by decide +kernel
theorem dX6_level_9 : decode cX6_level 9 = .ok (.iconst 0, 1) := by decide +kernel
theorem dX6_level_10 : decode cX6_level 10 = .ok (.goto 4, 3) := by decide +kernel
theorem dX6_level_13 : decode cX6_level 13 = .ok (.iconst 1, 1) := by decide +kernel
theorem dX6_level_14 : decode cX6_level 14 = .ok (.invokevirtual 58, 3) := by decide +kernel
theorem dX6_level_17 : decode cX6_level 17 = .ok (.ifCond .ne 5, 3) := by decide +kernel
theorem dX6_level_20 : decode cX6_level 20 = .ok (.iconst 0, 1) := by decide +kernel
theorem dX6_level_21 : decode cX6_level 21 = .ok (.ireturn, 1) := by decide +kernel
theorem dX6_level_22 : decode cX6_level 22 = .ok (.aload_n 0, 1) := by decide +kernel
theorem dX6_level_23 : decode cX6_level 23 = .ok (.invokevirtual 91, 3) := by decide +kernel
theorem dX6_level_26 : decode cX6_level 26 = .ok (.istore_n 2, 1) := by decide +kernel
theorem dX6_level_27 : decode cX6_level 27 = .ok (.iconst 0, 1) := by decide +kernel
theorem dX6_level_28 : decode cX6_level 28 = .ok (.istore_n 3, 1) := by decide +kernel
theorem dX6_level_29 : decode cX6_level 29 = .ok (.iconst 0, 1) := by decide +kernel
theorem dX6_level_30 : decode cX6_level 30 = .ok (.istore 4, 2) := by decide +kernel
theorem dX6_level_32 : decode cX6_level 32 = .ok (.iload 4, 2) := by decide +kernel
theorem dX6_level_34 : decode cX6_level 34 = .ok (.iload_n 2, 1) := by decide +kernel
theorem dX6_level_35 : decode cX6_level 35 = .ok (.if_icmp .ge 57, 3) := by decide +kernel
theorem dX6_level_38 : decode cX6_level 38 = .ok (.aload_n 0, 1) := by decide +kernel
theorem dX6_level_39 : decode cX6_level 39 = .ok (.getfield 31, 3) := by decide +kernel
theorem dX6_level_42 : decode cX6_level 42 = .ok (.iload 4, 2) := by decide +kernel
theorem dX6_level_44 : decode cX6_level 44 = .ok (.aload_n 0, 1) := by decide +kernel
theorem dX6_level_45 : decode cX6_level 45 = .ok (.getfield 28, 3) := by decide +kernel
theorem dX6_level_48 : decode cX6_level 48 = .ok (.bipush 8, 2) := by decide +kernel
theorem dX6_level_50 : decode cX6_level 50 = .ok (.iload 4, 2) := by decide +kernel
theorem dX6_level_52 : decode cX6_level 52 = .ok (.imul, 1) := by decide +kernel
theorem dX6_level_53 : decode cX6_level 53 = .ok (.iload_n 1, 1) := by decide +kernel
theorem dX6_level_54 : decode cX6_level 54 = .ok (.iadd, 1) := by decide +kernel
theorem dX6_level_55 : decode cX6_level 55 = .ok (.iaload, 1) := by decide +kernel
theorem dX6_level_56 : decode cX6_level 56 = .ok (.iconst (-1), 1) := by decide +kernel
theorem dX6_level_57 : decode cX6_level 57 = .ok (.if_icmp .eq 7, 3) := by decide +kernel
theorem dX6_level_60 : decode cX6_level 60 = .ok (.iconst 1, 1) := by decide +kernel
theorem dX6_level_61 : decode cX6_level 61 = .ok (.goto 4, 3) := by decide +kernel
theorem dX6_level_64 : decode cX6_level 64 = .ok (.iconst 0, 1) := by decide +kernel
theorem dX6_level_65 : decode cX6_level 65 = .ok (.bastore, 1) := by decide +kernel
theorem dX6_level_66 : decode cX6_level 66 = .ok (.iload_n 3, 1) := by decide +kernel
theorem dX6_level_67 : decode cX6_level 67 = .ok (.ifCond .ne 13, 3) := by decide +kernel
theorem dX6_level_70 : decode cX6_level 70 = .ok (.aload_n 0, 1) := by decide +kernel
theorem dX6_level_71 : decode cX6_level 71 = .ok (.getfield 31, 3) := by decide +kernel
theorem dX6_level_74 : decode cX6_level 74 = .ok (.iload 4, 2) := by decide +kernel
theorem dX6_level_76 : decode cX6_level 76 = .ok (.baload, 1) := by decide +kernel
theorem dX6_level_77 : decode cX6_level 77 = .ok (.ifCond .eq 7, 3) := by decide +kernel
theorem dX6_level_80 : decode cX6_level 80 = .ok (.iconst 1, 1) := by decide +kernel
theorem dX6_level_81 : decode cX6_level 81 = .ok (.goto 4, 3) := by decide +kernel
theorem dX6_level_84 : decode cX6_level 84 = .ok (.iconst 0, 1) := by decide +kernel
theorem dX6_level_85 : decode cX6_level 85 = .ok (.istore_n 3, 1) := by decide +kernel
theorem dX6_level_86 : decode cX6_level 86 = .ok (.iinc 4 1, 3) := by decide +kernel
theorem dX6_level_89 : decode cX6_level 89 = .ok (.goto (-57), 3) := by decide +kernel
theorem dX6_level_92 : decode cX6_level 92 = .ok (.iload_n 2, 1) := by decide +kernel
theorem dX6_level_93 : decode cX6_level 93 = .ok (.iconst (-1), 1) := by decide +kernel
theorem dX6_level_94 : decode cX6_level 94 = .ok (.if_icmp .eq 7, 3) := by decide +kernel
theorem dX6_level_97 : decode cX6_level 97 = .ok (.iload_n 3, 1) := by decide +kernel
theorem dX6_level_98 : decode cX6_level 98 = .ok (.ifCond .ne 14, 3) := by decide +kernel
theorem dX6_level_101 : decode cX6_level 101 = .ok (.iload_n 2, 1) := by decide +kernel
theorem dX6_level_102 : decode cX6_level 102 = .ok (.iconst (-1), 1) := by decide +kernel
theorem dX6_level_103 : decode cX6_level 103 = .ok (.if_icmp .ne 7, 3) := by decide +kernel
theorem dX6_level_106 : decode cX6_level 106 = .ok (.iconst (-1), 1) := by decide +kernel
theorem dX6_level_107 : decode cX6_level 107 = .ok (.goto 4, 3) := by decide +kernel
theorem dX6_level_110 : decode cX6_level 110 = .ok (.iconst 0, 1) := by decide +kernel
theorem dX6_level_111 : decode cX6_level 111 = .ok (.ireturn, 1) := by decide +kernel
theorem dX6_level_112 : decode cX6_level 112 = .ok (.aload_n 0, 1) := by decide +kernel
theorem dX6_level_113 : decode cX6_level 113 = .ok (.iload_n 2, 1) := by decide +kernel
theorem dX6_level_114 : decode cX6_level 114 = .ok (.invokevirtual 99, 3) := by decide +kernel
theorem dX6_level_117 : decode cX6_level 117 = .ok (.aload_n 0, 1) := by decide +kernel
theorem dX6_level_118 : decode cX6_level 118 = .ok (.iload_n 2, 1) := by decide +kernel
theorem dX6_level_119 : decode cX6_level 119 = .ok (.invokevirtual 103, 3) := by decide +kernel
theorem dX6_level_122 : decode cX6_level 122 = .ok (.ifCond .eq 7, 3) := by decide +kernel
theorem dX6_level_125 : decode cX6_level 125 = .ok (.iconst 2, 1) := by decide +kernel
theorem dX6_level_126 : decode cX6_level 126 = .ok (.goto 4, 3) := by decide +kernel
theorem dX6_level_129 : decode cX6_level 129 = .ok (.iconst 1, 1) := by decide +kernel
theorem dX6_level_130 : decode cX6_level 130 = .ok (.ireturn, 1) := by decide +kernel
theorem dX6_wished_0 : decode cX6_wished 0 = .ok (.aload_n 0, 1) := by decide +kernel
theorem dX6_wished_1 : decode cX6_wished 1 = .ok (.invokevirtual 91, 3) := by decide +kernel
theorem dX6_wished_4 : decode cX6_wished 4 = .ok (.istore_n 3, 1) := by decide +kernel
theorem dX6_wished_5 : decode cX6_wished 5 = .ok (.iconst 0, 1) := by decide +kernel
theorem dX6_wished_6 : decode cX6_wished 6 = .ok (.istore 4, 2) := by decide +kernel
theorem dX6_wished_8 : decode cX6_wished 8 = .ok (.iload 4, 2) := by decide +kernel
theorem dX6_wished_10 : decode cX6_wished 10 = .ok (.iload_n 3, 1) := by decide +kernel
theorem dX6_wished_11 : decode cX6_wished 11 = .ok (.if_icmp .ge 28, 3) := by decide +kernel
theorem dX6_wished_14 : decode cX6_wished 14 = .ok (.aload_n 0, 1) := by decide +kernel
theorem dX6_wished_15 : decode cX6_wished 15 = .ok (.getfield 19, 3) := by decide +kernel
theorem dX6_wished_18 : decode cX6_wished 18 = .ok (.bipush 6, 2) := by decide +kernel
theorem dX6_wished_20 : decode cX6_wished 20 = .ok (.iload 4, 2) := by decide +kernel
theorem dX6_wished_22 : decode cX6_wished 22 = .ok (.imul, 1) := by decide +kernel
theorem dX6_wished_23 : decode cX6_wished 23 = .ok (.iload_n 1, 1) := by decide +kernel
theorem dX6_wished_24 : decode cX6_wished 24 = .ok (.iadd, 1) := by decide +kernel
theorem dX6_wished_25 : decode cX6_wished 25 = .ok (.iaload, 1) := by decide +kernel
theorem dX6_wished_26 : decode cX6_wished 26 = .ok (.iload_n 2, 1) := by decide +kernel
theorem dX6_wished_27 : decode cX6_wished 27 = .ok (.if_icmp .lt 6, 3) := by decide +kernel
theorem dX6_wished_30 : decode cX6_wished 30 = .ok (.iload 4, 2) := by decide +kernel
theorem dX6_wished_32 : decode cX6_wished 32 = .ok (.ireturn, 1) := by decide +kernel
theorem dX6_wished_33 : decode cX6_wished 33 = .ok (.iinc 4 1, 3) := by decide +kernel
theorem dX6_wished_36 : decode cX6_wished 36 = .ok (.goto (-28), 3) := by decide +kernel
theorem dX6_wished_39 : decode cX6_wished 39 = .ok (.iconst (-1), 1) := by decide +kernel
theorem dX6_wished_40 : decode cX6_wished 40 = .ok (.ireturn, 1) := by decide +kernel
theorem dX6_lengthTo_0 : decode cX6_lengthTo 0 = .ok (.iconst 0, 1) := by decide +kernel
theorem dX6_lengthTo_1 : decode cX6_lengthTo 1 = .ok (.istore_n 2, 1) := by decide +kernel
theorem dX6_lengthTo_2 : decode cX6_lengthTo 2 = .ok (.iload_n 1, 1) := by decide +kernel
theorem dX6_lengthTo_3 : decode cX6_lengthTo 3 = .ok (.istore_n 3, 1) := by decide +kernel
theorem dX6_lengthTo_4 : decode cX6_lengthTo 4 = .ok (.iload_n 3, 1) := by decide +kernel
theorem dX6_lengthTo_5 : decode cX6_lengthTo 5 = .ok (.ifCond .le 16, 3) := by decide +kernel
theorem dX6_lengthTo_8 : decode cX6_lengthTo 8 = .ok (.iinc 2 1, 3) := by decide +kernel
theorem dX6_lengthTo_11 : decode cX6_lengthTo 11 = .ok (.aload_n 0, 1) := by decide +kernel
theorem dX6_lengthTo_12 : decode cX6_lengthTo 12 = .ok (.getfield 22, 3) := by decide +kernel
theorem dX6_lengthTo_15 : decode cX6_lengthTo 15 = .ok (.iload_n 3, 1) := by decide +kernel
theorem dX6_lengthTo_16 : decode cX6_lengthTo 16 = .ok (.iaload, 1) := by decide +kernel
theorem dX6_lengthTo_17 : decode cX6_lengthTo 17 = .ok (.istore_n 3, 1) := by decide +kernel
theorem dX6_lengthTo_18 : decode cX6_lengthTo 18 = .ok (.goto (-14), 3) := by decide +kernel
theorem dX6_lengthTo_21 : decode cX6_lengthTo 21 = .ok (.iload_n 2, 1) := by decide +kernel
theorem dX6_lengthTo_22 : decode cX6_lengthTo 22 = .ok (.ireturn, 1) := by decide +kernel
theorem dX6_way_0 : decode cX6_way 0 = .ok (.aload_n 0, 1) := by decide +kernel
theorem dX6_way_1 : decode cX6_way 1 = .ok (.iload_n 1, 1) := by decide +kernel
theorem dX6_way_2 : decode cX6_way 2 = .ok (.invokevirtual 65, 3) := by decide +kernel
theorem dX6_way_5 : decode cX6_way 5 = .ok (.istore_n 3, 1) := by decide +kernel
theorem dX6_way_6 : decode cX6_way 6 = .ok (.aload_n 0, 1) := by decide +kernel
theorem dX6_way_7 : decode cX6_way 7 = .ok (.iload_n 3, 1) := by decide +kernel
theorem dX6_way_8 : decode cX6_way 8 = .ok (.ifCond .ne 7, 3) := by decide +kernel
theorem dX6_way_11 : decode cX6_way 11 = .ok (.iconst 1, 1) := by decide +kernel
theorem dX6_way_12 : decode cX6_way 12 = .ok (.goto 18, 3) := by decide +kernel
theorem dX6_way_15 : decode cX6_way 15 = .ok (.iload_n 2, 1) := by decide +kernel
theorem dX6_way_16 : decode cX6_way 16 = .ok (.iconst 0, 1) := by decide +kernel
theorem dX6_way_17 : decode cX6_way 17 = .ok (.bipush 99, 2) := by decide +kernel
theorem dX6_way_19 : decode cX6_way 19 = .ok (.invokestatic 51, 3) := by decide +kernel
theorem dX6_way_22 : decode cX6_way 22 = .ok (.ifCond .eq 7, 3) := by decide +kernel
theorem dX6_way_25 : decode cX6_way 25 = .ok (.iconst 0, 1) := by decide +kernel
theorem dX6_way_26 : decode cX6_way 26 = .ok (.goto 4, 3) := by decide +kernel
theorem dX6_way_29 : decode cX6_way 29 = .ok (.iconst 2, 1) := by decide +kernel
theorem dX6_way_30 : decode cX6_way 30 = .ok (.invokevirtual 58, 3) := by decide +kernel
theorem dX6_way_33 : decode cX6_way 33 = .ok (.ifCond .ne 5, 3) := by decide +kernel
theorem dX6_way_36 : decode cX6_way 36 = .ok (.iconst 0, 1) := by decide +kernel
theorem dX6_way_37 : decode cX6_way 37 = .ok (.ireturn, 1) := by decide +kernel
theorem dX6_way_38 : decode cX6_way 38 = .ok (.aload_n 0, 1) := by decide +kernel
theorem dX6_way_39 : decode cX6_way 39 = .ok (.iload_n 1, 1) := by decide +kernel
theorem dX6_way_40 : decode cX6_way 40 = .ok (.iload_n 2, 1) := by decide +kernel
theorem dX6_way_41 : decode cX6_way 41 = .ok (.invokevirtual 110, 3) := by decide +kernel
theorem dX6_way_44 : decode cX6_way 44 = .ok (.istore 4, 2) := by decide +kernel
theorem dX6_way_46 : decode cX6_way 46 = .ok (.iload 4, 2) := by decide +kernel
theorem dX6_way_48 : decode cX6_way 48 = .ok (.iconst (-1), 1) := by decide +kernel
theorem dX6_way_49 : decode cX6_way 49 = .ok (.if_icmp .ne 7, 3) := by decide +kernel
theorem dX6_way_52 : decode cX6_way 52 = .ok (.iconst (-1), 1) := by decide +kernel
theorem dX6_way_53 : decode cX6_way 53 = .ok (.goto 9, 3) := by decide +kernel
theorem dX6_way_56 : decode cX6_way 56 = .ok (.aload_n 0, 1) := by decide +kernel
theorem dX6_way_57 : decode cX6_way 57 = .ok (.iload 4, 2) := by decide +kernel
theorem dX6_way_59 : decode cX6_way 59 = .ok (.invokevirtual 113, 3) := by decide +kernel
theorem dX6_way_62 : decode cX6_way 62 = .ok (.ireturn, 1) := by decide +kernel
theorem dX6_step_0 : decode cX6_step 0 = .ok (.aload_n 0, 1) := by decide +kernel
theorem dX6_step_1 : decode cX6_step 1 = .ok (.iload_n 1, 1) := by decide +kernel
theorem dX6_step_2 : decode cX6_step 2 = .ok (.invokevirtual 65, 3) := by decide +kernel
theorem dX6_step_5 : decode cX6_step 5 = .ok (.istore 4, 2) := by decide +kernel
theorem dX6_step_7 : decode cX6_step 7 = .ok (.aload_n 0, 1) := by decide +kernel
theorem dX6_step_8 : decode cX6_step 8 = .ok (.iload 4, 2) := by decide +kernel
theorem dX6_step_10 : decode cX6_step 10 = .ok (.ifCond .ne 7, 3) := by decide +kernel
theorem dX6_step_13 : decode cX6_step 13 = .ok (.iconst 1, 1) := by decide +kernel
theorem dX6_step_14 : decode cX6_step 14 = .ok (.goto 22, 3) := by decide +kernel
theorem dX6_step_17 : decode cX6_step 17 = .ok (.iload_n 2, 1) := by decide +kernel
theorem dX6_step_18 : decode cX6_step 18 = .ok (.iconst 0, 1) := by decide +kernel
theorem dX6_step_19 : decode cX6_step 19 = .ok (.bipush 99, 2) := by decide +kernel
theorem dX6_step_21 : decode cX6_step 21 = .ok (.invokestatic 51, 3) := by decide +kernel
theorem dX6_step_24 : decode cX6_step 24 = .ok (.ifCond .eq 11, 3) := by decide +kernel
theorem dX6_step_27 : decode cX6_step 27 = .ok (.iload_n 3, 1) := by decide +kernel
theorem dX6_step_28 : decode cX6_step 28 = .ok (.ifCond .lt 7, 3) := by decide +kernel
theorem dX6_step_31 : decode cX6_step 31 = .ok (.iconst 0, 1) := by decide +kernel
theorem dX6_step_32 : decode cX6_step 32 = .ok (.goto 4, 3) := by decide +kernel
theorem dX6_step_35 : decode cX6_step 35 = .ok (.iconst 2, 1) := by decide +kernel
theorem dX6_step_36 : decode cX6_step 36 = .ok (.invokevirtual 58, 3) := by decide +kernel
theorem dX6_step_39 : decode cX6_step 39 = .ok (.ifCond .ne 5, 3) := by decide +kernel
theorem dX6_step_42 : decode cX6_step 42 = .ok (.iconst 0, 1) := by decide +kernel
theorem dX6_step_43 : decode cX6_step 43 = .ok (.ireturn, 1) := by decide +kernel
theorem dX6_step_44 : decode cX6_step 44 = .ok (.aload_n 0, 1) := by decide +kernel
theorem dX6_step_45 : decode cX6_step 45 = .ok (.iload_n 1, 1) := by decide +kernel
theorem dX6_step_46 : decode cX6_step 46 = .ok (.iload_n 2, 1) := by decide +kernel
theorem dX6_step_47 : decode cX6_step 47 = .ok (.invokevirtual 110, 3) := by decide +kernel
theorem dX6_step_50 : decode cX6_step 50 = .ok (.istore 5, 2) := by decide +kernel
theorem dX6_step_52 : decode cX6_step 52 = .ok (.iload 5, 2) := by decide +kernel
theorem dX6_step_54 : decode cX6_step 54 = .ok (.iconst (-1), 1) := by decide +kernel
theorem dX6_step_55 : decode cX6_step 55 = .ok (.if_icmp .ne 7, 3) := by decide +kernel
theorem dX6_step_58 : decode cX6_step 58 = .ok (.iconst 0, 1) := by decide +kernel
theorem dX6_step_59 : decode cX6_step 59 = .ok (.goto 9, 3) := by decide +kernel
theorem dX6_step_62 : decode cX6_step 62 = .ok (.aload_n 0, 1) := by decide +kernel
theorem dX6_step_63 : decode cX6_step 63 = .ok (.iload 5, 2) := by decide +kernel
theorem dX6_step_65 : decode cX6_step 65 = .ok (.invokevirtual 113, 3) := by decide +kernel
theorem dX6_step_68 : decode cX6_step 68 = .ok (.istore 6, 2) := by decide +kernel
theorem dX6_step_70 : decode cX6_step 70 = .ok (.iload_n 3, 1) := by decide +kernel
theorem dX6_step_71 : decode cX6_step 71 = .ok (.iload 6, 2) := by decide +kernel
theorem dX6_step_73 : decode cX6_step 73 = .ok (.if_icmp .lt 5, 3) := by decide +kernel
theorem dX6_step_76 : decode cX6_step 76 = .ok (.iconst (-1), 1) := by decide +kernel
theorem dX6_step_77 : decode cX6_step 77 = .ok (.ireturn, 1) := by decide +kernel
theorem dX6_step_78 : decode cX6_step 78 = .ok (.iload 6, 2) := by decide +kernel
theorem dX6_step_80 : decode cX6_step 80 = .ok (.iconst 1, 1) := by decide +kernel
theorem dX6_step_81 : decode cX6_step 81 = .ok (.isub, 1) := by decide +kernel
theorem dX6_step_82 : decode cX6_step 82 = .ok (.istore 7, 2) := by decide +kernel
theorem dX6_step_84 : decode cX6_step 84 = .ok (.iload 7, 2) := by decide +kernel
theorem dX6_step_86 : decode cX6_step 86 = .ok (.iload_n 3, 1) := by decide +kernel
theorem dX6_step_87 : decode cX6_step 87 = .ok (.if_icmp .le 18, 3) := by decide +kernel
theorem dX6_step_90 : decode cX6_step 90 = .ok (.aload_n 0, 1) := by decide +kernel
theorem dX6_step_91 : decode cX6_step 91 = .ok (.getfield 22, 3) := by decide +kernel
theorem dX6_step_94 : decode cX6_step 94 = .ok (.iload 5, 2) := by decide +kernel
theorem dX6_step_96 : decode cX6_step 96 = .ok (.iaload, 1) := by decide +kernel
theorem dX6_step_97 : decode cX6_step 97 = .ok (.istore 5, 2) := by decide +kernel
theorem dX6_step_99 : decode cX6_step 99 = .ok (.iinc 7 (-1), 3) := by decide +kernel
theorem dX6_step_102 : decode cX6_step 102 = .ok (.goto (-18), 3) := by decide +kernel
theorem dX6_step_105 : decode cX6_step 105 = .ok (.aload_n 0, 1) := by decide +kernel
theorem dX6_step_106 : decode cX6_step 106 = .ok (.getfield 25, 3) := by decide +kernel
theorem dX6_step_109 : decode cX6_step 109 = .ok (.iload 5, 2) := by decide +kernel
theorem dX6_step_111 : decode cX6_step 111 = .ok (.iaload, 1) := by decide +kernel
theorem dX6_step_112 : decode cX6_step 112 = .ok (.ireturn, 1) := by decide +kernel
theorem dX6_digit_0 : decode cX6_digit 0 = .ok (.iload_n 0, 1) := by decide +kernel
theorem dX6_digit_1 : decode cX6_digit 1 = .ok (.istore 4, 2) := by decide +kernel
theorem dX6_digit_3 : decode cX6_digit 3 = .ok (.iload_n 3, 1) := by decide +kernel
theorem dX6_digit_4 : decode cX6_digit 4 = .ok (.istore 5, 2) := by decide +kernel
theorem dX6_digit_6 : decode cX6_digit 6 = .ok (.iload 5, 2) := by decide +kernel
theorem dX6_digit_8 : decode cX6_digit 8 = .ok (.iload_n 2, 1) := by decide +kernel
theorem dX6_digit_9 : decode cX6_digit 9 = .ok (.iconst 1, 1) := by decide +kernel
theorem dX6_digit_10 : decode cX6_digit 10 = .ok (.isub, 1) := by decide +kernel
theorem dX6_digit_11 : decode cX6_digit 11 = .ok (.if_icmp .ge 15, 3) := by decide +kernel
theorem dX6_digit_14 : decode cX6_digit 14 = .ok (.iload 4, 2) := by decide +kernel
theorem dX6_digit_16 : decode cX6_digit 16 = .ok (.iload_n 1, 1) := by decide +kernel
theorem dX6_digit_17 : decode cX6_digit 17 = .ok (.idiv, 1) := by decide +kernel
theorem dX6_digit_18 : decode cX6_digit 18 = .ok (.istore 4, 2) := by decide +kernel
theorem dX6_digit_20 : decode cX6_digit 20 = .ok (.iinc 5 1, 3) := by decide +kernel
theorem dX6_digit_23 : decode cX6_digit 23 = .ok (.goto (-17), 3) := by decide +kernel
theorem dX6_digit_26 : decode cX6_digit 26 = .ok (.iload 4, 2) := by decide +kernel
theorem dX6_digit_28 : decode cX6_digit 28 = .ok (.iload_n 1, 1) := by decide +kernel
theorem dX6_digit_29 : decode cX6_digit 29 = .ok (.irem, 1) := by decide +kernel
theorem dX6_digit_30 : decode cX6_digit 30 = .ok (.ireturn, 1) := by decide +kernel
theorem dX6_change_0 : decode cX6_change 0 = .ok (.aload_n 0, 1) := by decide +kernel
theorem dX6_change_1 : decode cX6_change 1 = .ok (.iconst 1, 1) := by decide +kernel
theorem dX6_change_2 : decode cX6_change 2 = .ok (.iload_n 1, 1) := by decide +kernel
theorem dX6_change_3 : decode cX6_change 3 = .ok (.iload_n 2, 1) := by decide +kernel
theorem dX6_change_4 : decode cX6_change 4 = .ok (.invokevirtual 68, 3) := by decide +kernel
theorem dX6_change_7 : decode cX6_change 7 = .ok (.aload_n 0, 1) := by decide +kernel
theorem dX6_change_8 : decode cX6_change 8 = .ok (.iconst 0, 1) := by decide +kernel
theorem dX6_change_9 : decode cX6_change 9 = .ok (.iload_n 1, 1) := by decide +kernel
theorem dX6_change_10 : decode cX6_change 10 = .ok (.iload_n 2, 1) := by decide +kernel
theorem dX6_change_11 : decode cX6_change 11 = .ok (.invokevirtual 68, 3) := by decide +kernel
theorem dX6_change_14 : decode cX6_change 14 = .ok (.isub, 1) := by decide +kernel
theorem dX6_change_15 : decode cX6_change 15 = .ok (.ireturn, 1) := by decide +kernel
theorem dX6_isRow_0 : decode cX6_isRow 0 = .ok (.iconst 1, 1) := by decide +kernel
theorem dX6_isRow_1 : decode cX6_isRow 1 = .ok (.istore_n 2, 1) := by decide +kernel
theorem dX6_isRow_2 : decode cX6_isRow 2 = .ok (.iconst 0, 1) := by decide +kernel
theorem dX6_isRow_3 : decode cX6_isRow 3 = .ok (.istore_n 3, 1) := by decide +kernel
theorem dX6_isRow_4 : decode cX6_isRow 4 = .ok (.iload_n 3, 1) := by decide +kernel
theorem dX6_isRow_5 : decode cX6_isRow 5 = .ok (.aload_n 0, 1) := by decide +kernel
theorem dX6_isRow_6 : decode cX6_isRow 6 = .ok (.getfield 55, 3) := by decide +kernel
theorem dX6_isRow_9 : decode cX6_isRow 9 = .ok (.if_icmp .ge 99, 3) := by decide +kernel
theorem dX6_isRow_12 : decode cX6_isRow 12 = .ok (.iconst 0, 1) := by decide +kernel
theorem dX6_isRow_13 : decode cX6_isRow 13 = .ok (.istore 4, 2) := by decide +kernel
theorem dX6_isRow_15 : decode cX6_isRow 15 = .ok (.iconst 0, 1) := by decide +kernel
theorem dX6_isRow_16 : decode cX6_isRow 16 = .ok (.istore 5, 2) := by decide +kernel
theorem dX6_isRow_18 : decode cX6_isRow 18 = .ok (.iload 5, 2) := by decide +kernel
theorem dX6_isRow_20 : decode cX6_isRow 20 = .ok (.aload_n 0, 1) := by decide +kernel
theorem dX6_isRow_21 : decode cX6_isRow 21 = .ok (.getfield 48, 3) := by decide +kernel
theorem dX6_isRow_24 : decode cX6_isRow 24 = .ok (.if_icmp .ge 63, 3) := by decide +kernel
theorem dX6_isRow_27 : decode cX6_isRow 27 = .ok (.iload_n 1, 1) := by decide +kernel
theorem dX6_isRow_28 : decode cX6_isRow 28 = .ok (.iconst 4, 1) := by decide +kernel
theorem dX6_isRow_29 : decode cX6_isRow 29 = .ok (.aload_n 0, 1) := by decide +kernel
theorem dX6_isRow_30 : decode cX6_isRow 30 = .ok (.getfield 48, 3) := by decide +kernel
theorem dX6_isRow_33 : decode cX6_isRow 33 = .ok (.iload 5, 2) := by decide +kernel
theorem dX6_isRow_35 : decode cX6_isRow 35 = .ok (.invokestatic 116, 3) := by decide +kernel
theorem dX6_isRow_38 : decode cX6_isRow 38 = .ok (.istore 6, 2) := by decide +kernel
theorem dX6_isRow_40 : decode cX6_isRow 40 = .ok (.iload 4, 2) := by decide +kernel
theorem dX6_isRow_42 : decode cX6_isRow 42 = .ok (.iload 6, 2) := by decide +kernel
theorem dX6_isRow_44 : decode cX6_isRow 44 = .ok (.aload_n 0, 1) := by decide +kernel
theorem dX6_isRow_45 : decode cX6_isRow 45 = .ok (.iload_n 3, 1) := by decide +kernel
theorem dX6_isRow_46 : decode cX6_isRow 46 = .ok (.iload 5, 2) := by decide +kernel
theorem dX6_isRow_48 : decode cX6_isRow 48 = .ok (.invokevirtual 120, 3) := by decide +kernel
theorem dX6_isRow_51 : decode cX6_isRow 51 = .ok (.imul, 1) := by decide +kernel
theorem dX6_isRow_52 : decode cX6_isRow 52 = .ok (.iadd, 1) := by decide +kernel
theorem dX6_isRow_53 : decode cX6_isRow 53 = .ok (.istore 4, 2) := by decide +kernel
theorem dX6_isRow_55 : decode cX6_isRow 55 = .ok (.iload_n 2, 1) := by decide +kernel
theorem dX6_isRow_56 : decode cX6_isRow 56 = .ok (.ifCond .eq 23, 3) := by decide +kernel
theorem dX6_isRow_59 : decode cX6_isRow 59 = .ok (.iload 6, 2) := by decide +kernel
theorem dX6_isRow_61 : decode cX6_isRow 61 = .ok (.ifCond .eq 14, 3) := by decide +kernel
theorem dX6_isRow_64 : decode cX6_isRow 64 = .ok (.aload_n 0, 1) := by decide +kernel
theorem dX6_isRow_65 : decode cX6_isRow 65 = .ok (.iconst 4, 1) := by decide +kernel
theorem dX6_isRow_66 : decode cX6_isRow 66 = .ok (.iload_n 3, 1) := by decide +kernel
theorem dX6_isRow_67 : decode cX6_isRow 67 = .ok (.iload 5, 2) := by decide +kernel
theorem dX6_isRow_69 : decode cX6_isRow 69 = .ok (.invokevirtual 68, 3) := by decide +kernel
theorem dX6_isRow_72 : decode cX6_isRow 72 = .ok (.ifCond .ne 7, 3) := by decide +kernel
theorem dX6_isRow_75 : decode cX6_isRow 75 = .ok (.iconst 1, 1) := by decide +kernel
theorem dX6_isRow_76 : decode cX6_isRow 76 = .ok (.goto 4, 3) := by decide +kernel
theorem dX6_isRow_79 : decode cX6_isRow 79 = .ok (.iconst 0, 1) := by decide +kernel
theorem dX6_isRow_80 : decode cX6_isRow 80 = .ok (.istore_n 2, 1) := by decide +kernel
theorem dX6_isRow_81 : decode cX6_isRow 81 = .ok (.iinc 5 1, 3) := by decide +kernel
theorem dX6_isRow_84 : decode cX6_isRow 84 = .ok (.goto (-66), 3) := by decide +kernel
theorem dX6_isRow_87 : decode cX6_isRow 87 = .ok (.iload_n 2, 1) := by decide +kernel
theorem dX6_isRow_88 : decode cX6_isRow 88 = .ok (.ifCond .eq 12, 3) := by decide +kernel
theorem dX6_isRow_91 : decode cX6_isRow 91 = .ok (.iload 4, 2) := by decide +kernel
theorem dX6_isRow_93 : decode cX6_isRow 93 = .ok (.ifCond .ne 7, 3) := by decide +kernel
theorem dX6_isRow_96 : decode cX6_isRow 96 = .ok (.iconst 1, 1) := by decide +kernel
theorem dX6_isRow_97 : decode cX6_isRow 97 = .ok (.goto 4, 3) := by decide +kernel
theorem dX6_isRow_100 : decode cX6_isRow 100 = .ok (.iconst 0, 1) := by decide +kernel
theorem dX6_isRow_101 : decode cX6_isRow 101 = .ok (.istore_n 2, 1) := by decide +kernel
theorem dX6_isRow_102 : decode cX6_isRow 102 = .ok (.iinc 3 1, 3) := by decide +kernel
theorem dX6_isRow_105 : decode cX6_isRow 105 = .ok (.goto (-101), 3) := by decide +kernel
theorem dX6_isRow_108 : decode cX6_isRow 108 = .ok (.iload_n 2, 1) := by decide +kernel
theorem dX6_isRow_109 : decode cX6_isRow 109 = .ok (.ireturn, 1) := by decide +kernel
theorem dX6_isRound_0 : decode cX6_isRound 0 = .ok (.iconst 1, 1) := by decide +kernel
theorem dX6_isRound_1 : decode cX6_isRound 1 = .ok (.istore_n 2, 1) := by decide +kernel
theorem dX6_isRound_2 : decode cX6_isRound 2 = .ok (.iconst 0, 1) := by decide +kernel
theorem dX6_isRound_3 : decode cX6_isRound 3 = .ok (.istore_n 3, 1) := by decide +kernel
theorem dX6_isRound_4 : decode cX6_isRound 4 = .ok (.iload_n 3, 1) := by decide +kernel
theorem dX6_isRound_5 : decode cX6_isRound 5 = .ok (.aload_n 0, 1) := by decide +kernel
theorem dX6_isRound_6 : decode cX6_isRound 6 = .ok (.getfield 48, 3) := by decide +kernel
theorem dX6_isRound_9 : decode cX6_isRound 9 = .ok (.if_icmp .ge 99, 3) := by decide +kernel
theorem dX6_isRound_12 : decode cX6_isRound 12 = .ok (.iconst 0, 1) := by decide +kernel
theorem dX6_isRound_13 : decode cX6_isRound 13 = .ok (.istore 4, 2) := by decide +kernel
theorem dX6_isRound_15 : decode cX6_isRound 15 = .ok (.iconst 0, 1) := by decide +kernel
theorem dX6_isRound_16 : decode cX6_isRound 16 = .ok (.istore 5, 2) := by decide +kernel
theorem dX6_isRound_18 : decode cX6_isRound 18 = .ok (.iload 5, 2) := by decide +kernel
theorem dX6_isRound_20 : decode cX6_isRound 20 = .ok (.aload_n 0, 1) := by decide +kernel
theorem dX6_isRound_21 : decode cX6_isRound 21 = .ok (.getfield 55, 3) := by decide +kernel
theorem dX6_isRound_24 : decode cX6_isRound 24 = .ok (.if_icmp .ge 63, 3) := by decide +kernel
theorem dX6_isRound_27 : decode cX6_isRound 27 = .ok (.iload_n 1, 1) := by decide +kernel
theorem dX6_isRound_28 : decode cX6_isRound 28 = .ok (.iconst 3, 1) := by decide +kernel
theorem dX6_isRound_29 : decode cX6_isRound 29 = .ok (.aload_n 0, 1) := by decide +kernel
theorem dX6_isRound_30 : decode cX6_isRound 30 = .ok (.getfield 55, 3) := by decide +kernel
theorem dX6_isRound_33 : decode cX6_isRound 33 = .ok (.iload 5, 2) := by decide +kernel
theorem dX6_isRound_35 : decode cX6_isRound 35 = .ok (.invokestatic 116, 3) := by decide +kernel
theorem dX6_isRound_38 : decode cX6_isRound 38 = .ok (.istore 6, 2) := by decide +kernel
theorem dX6_isRound_40 : decode cX6_isRound 40 = .ok (.iload 4, 2) := by decide +kernel
theorem dX6_isRound_42 : decode cX6_isRound 42 = .ok (.iload 6, 2) := by decide +kernel
theorem dX6_isRound_44 : decode cX6_isRound 44 = .ok (.aload_n 0, 1) := by decide +kernel
theorem dX6_isRound_45 : decode cX6_isRound 45 = .ok (.iload 5, 2) := by decide +kernel
theorem dX6_isRound_47 : decode cX6_isRound 47 = .ok (.iload_n 3, 1) := by decide +kernel
theorem dX6_isRound_48 : decode cX6_isRound 48 = .ok (.invokevirtual 120, 3) := by decide +kernel
theorem dX6_isRound_51 : decode cX6_isRound 51 = .ok (.imul, 1) := by decide +kernel
theorem dX6_isRound_52 : decode cX6_isRound 52 = .ok (.iadd, 1) := by decide +kernel
theorem dX6_isRound_53 : decode cX6_isRound 53 = .ok (.istore 4, 2) := by decide +kernel
theorem dX6_isRound_55 : decode cX6_isRound 55 = .ok (.iload_n 2, 1) := by decide +kernel
theorem dX6_isRound_56 : decode cX6_isRound 56 = .ok (.ifCond .eq 23, 3) := by decide +kernel
theorem dX6_isRound_59 : decode cX6_isRound 59 = .ok (.iload 6, 2) := by decide +kernel
theorem dX6_isRound_61 : decode cX6_isRound 61 = .ok (.ifCond .eq 14, 3) := by decide +kernel
theorem dX6_isRound_64 : decode cX6_isRound 64 = .ok (.aload_n 0, 1) := by decide +kernel
theorem dX6_isRound_65 : decode cX6_isRound 65 = .ok (.iconst 4, 1) := by decide +kernel
theorem dX6_isRound_66 : decode cX6_isRound 66 = .ok (.iload 5, 2) := by decide +kernel
theorem dX6_isRound_68 : decode cX6_isRound 68 = .ok (.iload_n 3, 1) := by decide +kernel
theorem dX6_isRound_69 : decode cX6_isRound 69 = .ok (.invokevirtual 68, 3) := by decide +kernel
theorem dX6_isRound_72 : decode cX6_isRound 72 = .ok (.ifCond .ne 7, 3) := by decide +kernel
theorem dX6_isRound_75 : decode cX6_isRound 75 = .ok (.iconst 1, 1) := by decide +kernel
theorem dX6_isRound_76 : decode cX6_isRound 76 = .ok (.goto 4, 3) := by decide +kernel
theorem dX6_isRound_79 : decode cX6_isRound 79 = .ok (.iconst 0, 1) := by decide +kernel
theorem dX6_isRound_80 : decode cX6_isRound 80 = .ok (.istore_n 2, 1) := by decide +kernel
theorem dX6_isRound_81 : decode cX6_isRound 81 = .ok (.iinc 5 1, 3) := by decide +kernel
theorem dX6_isRound_84 : decode cX6_isRound 84 = .ok (.goto (-66), 3) := by decide +kernel
theorem dX6_isRound_87 : decode cX6_isRound 87 = .ok (.iload_n 2, 1) := by decide +kernel
theorem dX6_isRound_88 : decode cX6_isRound 88 = .ok (.ifCond .eq 12, 3) := by decide +kernel
theorem dX6_isRound_91 : decode cX6_isRound 91 = .ok (.iload 4, 2) := by decide +kernel
theorem dX6_isRound_93 : decode cX6_isRound 93 = .ok (.ifCond .ne 7, 3) := by decide +kernel
theorem dX6_isRound_96 : decode cX6_isRound 96 = .ok (.iconst 1, 1) := by decide +kernel
theorem dX6_isRound_97 : decode cX6_isRound 97 = .ok (.goto 4, 3) := by decide +kernel
theorem dX6_isRound_100 : decode cX6_isRound 100 = .ok (.iconst 0, 1) := by decide +kernel
theorem dX6_isRound_101 : decode cX6_isRound 101 = .ok (.istore_n 2, 1) := by decide +kernel
theorem dX6_isRound_102 : decode cX6_isRound 102 = .ok (.iinc 3 1, 3) := by decide +kernel
theorem dX6_isRound_105 : decode cX6_isRound 105 = .ok (.goto (-101), 3) := by decide +kernel
theorem dX6_isRound_108 : decode cX6_isRound 108 = .ok (.iload_n 2, 1) := by decide +kernel
theorem dX6_isRound_109 : decode cX6_isRound 109 = .ok (.ireturn, 1) := by decide +kernel
theorem dX6_isBelow_0 : decode cX6_isBelow 0 = .ok (.iload_n 0, 1) := by decide +kernel
theorem dX6_isBelow_1 : decode cX6_isBelow 1 = .ok (.istore_n 3, 1) := by decide +kernel
theorem dX6_isBelow_2 : decode cX6_isBelow 2 = .ok (.iload_n 1, 1) := by decide +kernel
theorem dX6_isBelow_3 : decode cX6_isBelow 3 = .ok (.istore 4, 2) := by decide +kernel
theorem dX6_isBelow_5 : decode cX6_isBelow 5 = .ok (.iconst 1, 1) := by decide +kernel
theorem dX6_isBelow_6 : decode cX6_isBelow 6 = .ok (.istore 5, 2) := by decide +kernel
theorem dX6_isBelow_8 : decode cX6_isBelow 8 = .ok (.iload_n 3, 1) := by decide +kernel
theorem dX6_isBelow_9 : decode cX6_isBelow 9 = .ok (.ifCond .le 38, 3) := by decide +kernel
theorem dX6_isBelow_12 : decode cX6_isBelow 12 = .ok (.iload 5, 2) := by decide +kernel
theorem dX6_isBelow_14 : decode cX6_isBelow 14 = .ok (.ifCond .eq 17, 3) := by decide +kernel
theorem dX6_isBelow_17 : decode cX6_isBelow 17 = .ok (.iload_n 3, 1) := by decide +kernel
theorem dX6_isBelow_18 : decode cX6_isBelow 18 = .ok (.iload_n 2, 1) := by decide +kernel
theorem dX6_isBelow_19 : decode cX6_isBelow 19 = .ok (.irem, 1) := by decide +kernel
theorem dX6_isBelow_20 : decode cX6_isBelow 20 = .ok (.iload 4, 2) := by decide +kernel
theorem dX6_isBelow_22 : decode cX6_isBelow 22 = .ok (.iload_n 2, 1) := by decide +kernel
theorem dX6_isBelow_23 : decode cX6_isBelow 23 = .ok (.irem, 1) := by decide +kernel
theorem dX6_isBelow_24 : decode cX6_isBelow 24 = .ok (.if_icmp .gt 7, 3) := by decide +kernel
theorem dX6_isBelow_27 : decode cX6_isBelow 27 = .ok (.iconst 1, 1) := by decide +kernel
theorem dX6_isBelow_28 : decode cX6_isBelow 28 = .ok (.goto 4, 3) := by decide +kernel
theorem dX6_isBelow_31 : decode cX6_isBelow 31 = .ok (.iconst 0, 1) := by decide +kernel
theorem dX6_isBelow_32 : decode cX6_isBelow 32 = .ok (.istore 5, 2) := by decide +kernel
theorem dX6_isBelow_34 : decode cX6_isBelow 34 = .ok (.iload_n 3, 1) := by decide +kernel
theorem dX6_isBelow_35 : decode cX6_isBelow 35 = .ok (.iload_n 2, 1) := by decide +kernel
theorem dX6_isBelow_36 : decode cX6_isBelow 36 = .ok (.idiv, 1) := by decide +kernel
theorem dX6_isBelow_37 : decode cX6_isBelow 37 = .ok (.istore_n 3, 1) := by decide +kernel
theorem dX6_isBelow_38 : decode cX6_isBelow 38 = .ok (.iload 4, 2) := by decide +kernel
theorem dX6_isBelow_40 : decode cX6_isBelow 40 = .ok (.iload_n 2, 1) := by decide +kernel
theorem dX6_isBelow_41 : decode cX6_isBelow 41 = .ok (.idiv, 1) := by decide +kernel
theorem dX6_isBelow_42 : decode cX6_isBelow 42 = .ok (.istore 4, 2) := by decide +kernel
theorem dX6_isBelow_44 : decode cX6_isBelow 44 = .ok (.goto (-36), 3) := by decide +kernel
theorem dX6_isBelow_47 : decode cX6_isBelow 47 = .ok (.iload 5, 2) := by decide +kernel
theorem dX6_isBelow_49 : decode cX6_isBelow 49 = .ok (.ireturn, 1) := by decide +kernel
theorem dX6_findLeast_0 : decode cX6_findLeast 0 = .ok (.iload_n 1, 1) := by decide +kernel
theorem dX6_findLeast_1 : decode cX6_findLeast 1 = .ok (.ifCond .eq 7, 3) := by decide +kernel
theorem dX6_findLeast_4 : decode cX6_findLeast 4 = .ok (.iconst 4, 1) := by decide +kernel
theorem dX6_findLeast_5 : decode cX6_findLeast 5 = .ok (.goto 4, 3) := by decide +kernel
theorem dX6_findLeast_8 : decode cX6_findLeast 8 = .ok (.iconst 3, 1) := by decide +kernel
theorem dX6_findLeast_9 : decode cX6_findLeast 9 = .ok (.istore_n 2, 1) := by decide +kernel
theorem dX6_findLeast_10 : decode cX6_findLeast 10 = .ok (.iconst 1, 1) := by decide +kernel
theorem dX6_findLeast_11 : decode cX6_findLeast 11 = .ok (.istore_n 3, 1) := by decide +kernel
theorem dX6_findLeast_12 : decode cX6_findLeast 12 = .ok (.iconst 0, 1) := by decide +kernel
theorem dX6_findLeast_13 : decode cX6_findLeast 13 = .ok (.istore 4, 2) := by decide +kernel
theorem dX6_findLeast_15 : decode cX6_findLeast 15 = .ok (.iload 4, 2) := by decide +kernel
theorem dX6_findLeast_17 : decode cX6_findLeast 17 = .ok (.iload_n 1, 1) := by decide +kernel
theorem dX6_findLeast_18 : decode cX6_findLeast 18 = .ok (.ifCond .eq 10, 3) := by decide +kernel
theorem dX6_findLeast_21 : decode cX6_findLeast 21 = .ok (.aload_n 0, 1) := by decide +kernel
theorem dX6_findLeast_22 : decode cX6_findLeast 22 = .ok (.getfield 48, 3) := by decide +kernel
theorem dX6_findLeast_25 : decode cX6_findLeast 25 = .ok (.goto 7, 3) := by decide +kernel
theorem dX6_findLeast_28 : decode cX6_findLeast 28 = .ok (.aload_n 0, 1) := by decide +kernel
theorem dX6_findLeast_29 : decode cX6_findLeast 29 = .ok (.getfield 55, 3) := by decide +kernel
theorem dX6_findLeast_32 : decode cX6_findLeast 32 = .ok (.if_icmp .ge 13, 3) := by decide +kernel
theorem dX6_findLeast_35 : decode cX6_findLeast 35 = .ok (.iload_n 3, 1) := by decide +kernel
theorem dX6_findLeast_36 : decode cX6_findLeast 36 = .ok (.iload_n 2, 1) := by decide +kernel
theorem dX6_findLeast_37 : decode cX6_findLeast 37 = .ok (.imul, 1) := by decide +kernel
theorem dX6_findLeast_38 : decode cX6_findLeast 38 = .ok (.istore_n 3, 1) := by decide +kernel
theorem dX6_findLeast_39 : decode cX6_findLeast 39 = .ok (.iinc 4 1, 3) := by decide +kernel
theorem dX6_findLeast_42 : decode cX6_findLeast 42 = .ok (.goto (-27), 3) := by decide +kernel
theorem dX6_findLeast_45 : decode cX6_findLeast 45 = .ok (.iconst 0, 1) := by decide +kernel
theorem dX6_findLeast_46 : decode cX6_findLeast 46 = .ok (.istore 4, 2) := by decide +kernel
theorem dX6_findLeast_48 : decode cX6_findLeast 48 = .ok (.iconst 1, 1) := by decide +kernel
theorem dX6_findLeast_49 : decode cX6_findLeast 49 = .ok (.istore 5, 2) := by decide +kernel
theorem dX6_findLeast_51 : decode cX6_findLeast 51 = .ok (.iload 5, 2) := by decide +kernel
theorem dX6_findLeast_53 : decode cX6_findLeast 53 = .ok (.iload_n 3, 1) := by decide +kernel
theorem dX6_findLeast_54 : decode cX6_findLeast 54 = .ok (.if_icmp .ge 91, 3) := by decide +kernel
theorem dX6_findLeast_57 : decode cX6_findLeast 57 = .ok (.iload_n 1, 1) := by decide +kernel
theorem dX6_findLeast_58 : decode cX6_findLeast 58 = .ok (.ifCond .eq 12, 3) := by decide +kernel
theorem dX6_findLeast_61 : decode cX6_findLeast 61 = .ok (.aload_n 0, 1) := by decide +kernel
theorem dX6_findLeast_62 : decode cX6_findLeast 62 = .ok (.iload 5, 2) := by decide +kernel
theorem dX6_findLeast_64 : decode cX6_findLeast 64 = .ok (.invokevirtual 123, 3) := by decide +kernel
theorem dX6_findLeast_67 : decode cX6_findLeast 67 = .ok (.goto 9, 3) := by decide +kernel
theorem dX6_findLeast_70 : decode cX6_findLeast 70 = .ok (.aload_n 0, 1) := by decide +kernel
theorem dX6_findLeast_71 : decode cX6_findLeast 71 = .ok (.iload 5, 2) := by decide +kernel
theorem dX6_findLeast_73 : decode cX6_findLeast 73 = .ok (.invokevirtual 126, 3) := by decide +kernel
theorem dX6_findLeast_76 : decode cX6_findLeast 76 = .ok (.istore 6, 2) := by decide +kernel
theorem dX6_findLeast_78 : decode cX6_findLeast 78 = .ok (.iconst 0, 1) := by decide +kernel
theorem dX6_findLeast_79 : decode cX6_findLeast 79 = .ok (.istore 7, 2) := by decide +kernel
theorem dX6_findLeast_81 : decode cX6_findLeast 81 = .ok (.iload 7, 2) := by decide +kernel
theorem dX6_findLeast_83 : decode cX6_findLeast 83 = .ok (.iload 4, 2) := by decide +kernel
theorem dX6_findLeast_85 : decode cX6_findLeast 85 = .ok (.if_icmp .ge 37, 3) := by decide +kernel
theorem dX6_findLeast_88 : decode cX6_findLeast 88 = .ok (.iload 6, 2) := by decide +kernel
theorem dX6_findLeast_90 : decode cX6_findLeast 90 = .ok (.ifCond .eq 32, 3) := by decide +kernel
theorem dX6_findLeast_93 : decode cX6_findLeast 93 = .ok (.aload_n 0, 1) := by decide +kernel
theorem dX6_findLeast_94 : decode cX6_findLeast 94 = .ok (.getfield 41, 3) := by decide +kernel
theorem dX6_findLeast_97 : decode cX6_findLeast 97 = .ok (.iload 7, 2) := by decide +kernel
theorem dX6_findLeast_99 : decode cX6_findLeast 99 = .ok (.iaload, 1) := by decide +kernel
theorem dX6_findLeast_100 : decode cX6_findLeast 100 = .ok (.iload 5, 2) := by decide +kernel
theorem dX6_findLeast_102 : decode cX6_findLeast 102 = .ok (.iload_n 2, 1) := by decide +kernel
theorem dX6_findLeast_103 : decode cX6_findLeast 103 = .ok (.invokestatic 129, 3) := by decide +kernel
theorem dX6_findLeast_106 : decode cX6_findLeast 106 = .ok (.ifCond .ne 7, 3) := by decide +kernel
theorem dX6_findLeast_109 : decode cX6_findLeast 109 = .ok (.iconst 1, 1) := by decide +kernel
theorem dX6_findLeast_110 : decode cX6_findLeast 110 = .ok (.goto 4, 3) := by decide +kernel
theorem dX6_findLeast_113 : decode cX6_findLeast 113 = .ok (.iconst 0, 1) := by decide +kernel
theorem dX6_findLeast_114 : decode cX6_findLeast 114 = .ok (.istore 6, 2) := by decide +kernel
theorem dX6_findLeast_116 : decode cX6_findLeast 116 = .ok (.iinc 7 1, 3) := by decide +kernel
theorem dX6_findLeast_119 : decode cX6_findLeast 119 = .ok (.goto (-38), 3) := by decide +kernel
theorem dX6_findLeast_122 : decode cX6_findLeast 122 = .ok (.iload 6, 2) := by decide +kernel
theorem dX6_findLeast_124 : decode cX6_findLeast 124 = .ok (.ifCond .eq 15, 3) := by decide +kernel
theorem dX6_findLeast_127 : decode cX6_findLeast 127 = .ok (.aload_n 0, 1) := by decide +kernel
theorem dX6_findLeast_128 : decode cX6_findLeast 128 = .ok (.getfield 41, 3) := by decide +kernel
theorem dX6_findLeast_131 : decode cX6_findLeast 131 = .ok (.iload 4, 2) := by decide +kernel
theorem dX6_findLeast_133 : decode cX6_findLeast 133 = .ok (.iload 5, 2) := by decide +kernel
theorem dX6_findLeast_135 : decode cX6_findLeast 135 = .ok (.iastore, 1) := by decide +kernel
theorem dX6_findLeast_136 : decode cX6_findLeast 136 = .ok (.iinc 4 1, 3) := by decide +kernel
theorem dX6_findLeast_139 : decode cX6_findLeast 139 = .ok (.iinc 5 1, 3) := by decide +kernel
theorem dX6_findLeast_142 : decode cX6_findLeast 142 = .ok (.goto (-91), 3) := by decide +kernel
theorem dX6_findLeast_145 : decode cX6_findLeast 145 = .ok (.iload 4, 2) := by decide +kernel
theorem dX6_findLeast_147 : decode cX6_findLeast 147 = .ok (.ireturn, 1) := by decide +kernel
theorem dX6_rows_0 : decode cX6_rows 0 = .ok (.aload_n 0, 1) := by decide +kernel
theorem dX6_rows_1 : decode cX6_rows 1 = .ok (.iconst 0, 1) := by decide +kernel
theorem dX6_rows_2 : decode cX6_rows 2 = .ok (.putfield 44, 3) := by decide +kernel
theorem dX6_rows_5 : decode cX6_rows 5 = .ok (.aload_n 0, 1) := by decide +kernel
theorem dX6_rows_6 : decode cX6_rows 6 = .ok (.iconst 1, 1) := by decide +kernel
theorem dX6_rows_7 : decode cX6_rows 7 = .ok (.invokevirtual 132, 3) := by decide +kernel
theorem dX6_rows_10 : decode cX6_rows 10 = .ok (.ireturn, 1) := by decide +kernel
theorem dX6_row_0 : decode cX6_row 0 = .ok (.aload_n 0, 1) := by decide +kernel
theorem dX6_row_1 : decode cX6_row 1 = .ok (.iload_n 1, 1) := by decide +kernel
theorem dX6_row_2 : decode cX6_row 2 = .ok (.iconst 0, 1) := by decide +kernel
theorem dX6_row_3 : decode cX6_row 3 = .ok (.aload_n 0, 1) := by decide +kernel
theorem dX6_row_4 : decode cX6_row 4 = .ok (.iconst 1, 1) := by decide +kernel
theorem dX6_row_5 : decode cX6_row 5 = .ok (.invokevirtual 132, 3) := by decide +kernel
theorem dX6_row_8 : decode cX6_row 8 = .ok (.iconst 1, 1) := by decide +kernel
theorem dX6_row_9 : decode cX6_row 9 = .ok (.isub, 1) := by decide +kernel
theorem dX6_row_10 : decode cX6_row 10 = .ok (.invokestatic 51, 3) := by decide +kernel
theorem dX6_row_13 : decode cX6_row 13 = .ok (.ifCond .eq 15, 3) := by decide +kernel
theorem dX6_row_16 : decode cX6_row 16 = .ok (.aload_n 0, 1) := by decide +kernel
theorem dX6_row_17 : decode cX6_row 17 = .ok (.iload_n 2, 1) := by decide +kernel
theorem dX6_row_18 : decode cX6_row 18 = .ok (.invokevirtual 65, 3) := by decide +kernel
theorem dX6_row_21 : decode cX6_row 21 = .ok (.ifCond .eq 7, 3) := by decide +kernel
theorem dX6_row_24 : decode cX6_row 24 = .ok (.iconst 0, 1) := by decide +kernel
theorem dX6_row_25 : decode cX6_row 25 = .ok (.goto 4, 3) := by decide +kernel
theorem dX6_row_28 : decode cX6_row 28 = .ok (.iconst 1, 1) := by decide +kernel
theorem dX6_row_29 : decode cX6_row 29 = .ok (.invokevirtual 58, 3) := by decide +kernel
theorem dX6_row_32 : decode cX6_row 32 = .ok (.ifCond .eq 21, 3) := by decide +kernel
theorem dX6_row_35 : decode cX6_row 35 = .ok (.aload_n 0, 1) := by decide +kernel
theorem dX6_row_36 : decode cX6_row 36 = .ok (.getfield 41, 3) := by decide +kernel
theorem dX6_row_39 : decode cX6_row 39 = .ok (.iload_n 1, 1) := by decide +kernel
theorem dX6_row_40 : decode cX6_row 40 = .ok (.iaload, 1) := by decide +kernel
theorem dX6_row_41 : decode cX6_row 41 = .ok (.iconst 4, 1) := by decide +kernel
theorem dX6_row_42 : decode cX6_row 42 = .ok (.aload_n 0, 1) := by decide +kernel
theorem dX6_row_43 : decode cX6_row 43 = .ok (.getfield 48, 3) := by decide +kernel
theorem dX6_row_46 : decode cX6_row 46 = .ok (.iload_n 2, 1) := by decide +kernel
theorem dX6_row_47 : decode cX6_row 47 = .ok (.invokestatic 116, 3) := by decide +kernel
theorem dX6_row_50 : decode cX6_row 50 = .ok (.goto 4, 3) := by decide +kernel
theorem dX6_row_53 : decode cX6_row 53 = .ok (.iconst 0, 1) := by decide +kernel
theorem dX6_row_54 : decode cX6_row 54 = .ok (.ireturn, 1) := by decide +kernel
theorem dX6_sumBy_0 : decode cX6_sumBy 0 = .ok (.iconst 0, 1) := by decide +kernel
theorem dX6_sumBy_1 : decode cX6_sumBy 1 = .ok (.istore_n 3, 1) := by decide +kernel
theorem dX6_sumBy_2 : decode cX6_sumBy 2 = .ok (.iconst 0, 1) := by decide +kernel
theorem dX6_sumBy_3 : decode cX6_sumBy 3 = .ok (.istore 4, 2) := by decide +kernel
theorem dX6_sumBy_5 : decode cX6_sumBy 5 = .ok (.iload 4, 2) := by decide +kernel
theorem dX6_sumBy_7 : decode cX6_sumBy 7 = .ok (.aload_n 0, 1) := by decide +kernel
theorem dX6_sumBy_8 : decode cX6_sumBy 8 = .ok (.getfield 48, 3) := by decide +kernel
theorem dX6_sumBy_11 : decode cX6_sumBy 11 = .ok (.if_icmp .ge 36, 3) := by decide +kernel
theorem dX6_sumBy_14 : decode cX6_sumBy 14 = .ok (.iload_n 3, 1) := by decide +kernel
theorem dX6_sumBy_15 : decode cX6_sumBy 15 = .ok (.iload_n 1, 1) := by decide +kernel
theorem dX6_sumBy_16 : decode cX6_sumBy 16 = .ok (.iconst 4, 1) := by decide +kernel
theorem dX6_sumBy_17 : decode cX6_sumBy 17 = .ok (.aload_n 0, 1) := by decide +kernel
theorem dX6_sumBy_18 : decode cX6_sumBy 18 = .ok (.getfield 48, 3) := by decide +kernel
theorem dX6_sumBy_21 : decode cX6_sumBy 21 = .ok (.iload 4, 2) := by decide +kernel
theorem dX6_sumBy_23 : decode cX6_sumBy 23 = .ok (.invokestatic 116, 3) := by decide +kernel
theorem dX6_sumBy_26 : decode cX6_sumBy 26 = .ok (.aload_n 0, 1) := by decide +kernel
theorem dX6_sumBy_27 : decode cX6_sumBy 27 = .ok (.getfield 19, 3) := by decide +kernel
theorem dX6_sumBy_30 : decode cX6_sumBy 30 = .ok (.bipush 6, 2) := by decide +kernel
theorem dX6_sumBy_32 : decode cX6_sumBy 32 = .ok (.iload_n 2, 1) := by decide +kernel
theorem dX6_sumBy_33 : decode cX6_sumBy 33 = .ok (.imul, 1) := by decide +kernel
theorem dX6_sumBy_34 : decode cX6_sumBy 34 = .ok (.iload 4, 2) := by decide +kernel
theorem dX6_sumBy_36 : decode cX6_sumBy 36 = .ok (.iadd, 1) := by decide +kernel
theorem dX6_sumBy_37 : decode cX6_sumBy 37 = .ok (.iaload, 1) := by decide +kernel
theorem dX6_sumBy_38 : decode cX6_sumBy 38 = .ok (.imul, 1) := by decide +kernel
theorem dX6_sumBy_39 : decode cX6_sumBy 39 = .ok (.iadd, 1) := by decide +kernel
theorem dX6_sumBy_40 : decode cX6_sumBy 40 = .ok (.istore_n 3, 1) := by decide +kernel
theorem dX6_sumBy_41 : decode cX6_sumBy 41 = .ok (.iinc 4 1, 3) := by decide +kernel
theorem dX6_sumBy_44 : decode cX6_sumBy 44 = .ok (.goto (-39), 3) := by decide +kernel
theorem dX6_sumBy_47 : decode cX6_sumBy 47 = .ok (.iload_n 3, 1) := by decide +kernel
theorem dX6_sumBy_48 : decode cX6_sumBy 48 = .ok (.ireturn, 1) := by decide +kernel
theorem dX6_boundOf_0 : decode cX6_boundOf 0 = .ok (.aload_n 0, 1) := by decide +kernel
theorem dX6_boundOf_1 : decode cX6_boundOf 1 = .ok (.invokevirtual 75, 3) := by decide +kernel
theorem dX6_boundOf_4 : decode cX6_boundOf 4 = .ok (.iconst (-1), 1) := by decide +kernel
theorem dX6_boundOf_5 : decode cX6_boundOf 5 = .ok (.istore_n 3, 1) := by decide +kernel
theorem dX6_boundOf_6 : decode cX6_boundOf 6 = .ok (.iconst 0, 1) := by decide +kernel
theorem dX6_boundOf_7 : decode cX6_boundOf 7 = .ok (.istore 4, 2) := by decide +kernel
theorem dX6_boundOf_9 : decode cX6_boundOf 9 = .ok (.iload 4, 2) := by decide +kernel
theorem dX6_boundOf_11 : decode cX6_boundOf 11 = .ok (.iload_n 2, 1) := by decide +kernel
theorem dX6_boundOf_12 : decode cX6_boundOf 12 = .ok (.if_icmp .ge 76, 3) := by decide +kernel
theorem dX6_boundOf_15 : decode cX6_boundOf 15 = .ok (.aload_n 0, 1) := by decide +kernel
theorem dX6_boundOf_16 : decode cX6_boundOf 16 = .ok (.getfield 41, 3) := by decide +kernel
theorem dX6_boundOf_19 : decode cX6_boundOf 19 = .ok (.iload 4, 2) := by decide +kernel
theorem dX6_boundOf_21 : decode cX6_boundOf 21 = .ok (.iaload, 1) := by decide +kernel
theorem dX6_boundOf_22 : decode cX6_boundOf 22 = .ok (.iconst 4, 1) := by decide +kernel
theorem dX6_boundOf_23 : decode cX6_boundOf 23 = .ok (.aload_n 0, 1) := by decide +kernel
theorem dX6_boundOf_24 : decode cX6_boundOf 24 = .ok (.getfield 48, 3) := by decide +kernel
theorem dX6_boundOf_27 : decode cX6_boundOf 27 = .ok (.iload_n 1, 1) := by decide +kernel
theorem dX6_boundOf_28 : decode cX6_boundOf 28 = .ok (.invokestatic 116, 3) := by decide +kernel
theorem dX6_boundOf_31 : decode cX6_boundOf 31 = .ok (.istore 5, 2) := by decide +kernel
theorem dX6_boundOf_33 : decode cX6_boundOf 33 = .ok (.iload 5, 2) := by decide +kernel
theorem dX6_boundOf_35 : decode cX6_boundOf 35 = .ok (.ifCond .ne 7, 3) := by decide +kernel
theorem dX6_boundOf_38 : decode cX6_boundOf 38 = .ok (.iconst (-1), 1) := by decide +kernel
theorem dX6_boundOf_39 : decode cX6_boundOf 39 = .ok (.goto 18, 3) := by decide +kernel
theorem dX6_boundOf_42 : decode cX6_boundOf 42 = .ok (.aload_n 0, 1) := by decide +kernel
theorem dX6_boundOf_43 : decode cX6_boundOf 43 = .ok (.aload_n 0, 1) := by decide +kernel
theorem dX6_boundOf_44 : decode cX6_boundOf 44 = .ok (.getfield 41, 3) := by decide +kernel
theorem dX6_boundOf_47 : decode cX6_boundOf 47 = .ok (.iload 4, 2) := by decide +kernel
theorem dX6_boundOf_49 : decode cX6_boundOf 49 = .ok (.iaload, 1) := by decide +kernel
theorem dX6_boundOf_50 : decode cX6_boundOf 50 = .ok (.iconst 0, 1) := by decide +kernel
theorem dX6_boundOf_51 : decode cX6_boundOf 51 = .ok (.invokevirtual 136, 3) := by decide +kernel
theorem dX6_boundOf_54 : decode cX6_boundOf 54 = .ok (.iload 5, 2) := by decide +kernel
theorem dX6_boundOf_56 : decode cX6_boundOf 56 = .ok (.idiv, 1) := by decide +kernel
theorem dX6_boundOf_57 : decode cX6_boundOf 57 = .ok (.istore 6, 2) := by decide +kernel
theorem dX6_boundOf_59 : decode cX6_boundOf 59 = .ok (.iload 5, 2) := by decide +kernel
theorem dX6_boundOf_61 : decode cX6_boundOf 61 = .ok (.ifCond .le 19, 3) := by decide +kernel
theorem dX6_boundOf_64 : decode cX6_boundOf 64 = .ok (.iload_n 3, 1) := by decide +kernel
theorem dX6_boundOf_65 : decode cX6_boundOf 65 = .ok (.iconst (-1), 1) := by decide +kernel
theorem dX6_boundOf_66 : decode cX6_boundOf 66 = .ok (.if_icmp .eq 9, 3) := by decide +kernel
theorem dX6_boundOf_69 : decode cX6_boundOf 69 = .ok (.iload 6, 2) := by decide +kernel
theorem dX6_boundOf_71 : decode cX6_boundOf 71 = .ok (.iload_n 3, 1) := by decide +kernel
theorem dX6_boundOf_72 : decode cX6_boundOf 72 = .ok (.if_icmp .ge 8, 3) := by decide +kernel
theorem dX6_boundOf_75 : decode cX6_boundOf 75 = .ok (.iload 6, 2) := by decide +kernel
theorem dX6_boundOf_77 : decode cX6_boundOf 77 = .ok (.goto 4, 3) := by decide +kernel
theorem dX6_boundOf_80 : decode cX6_boundOf 80 = .ok (.iload_n 3, 1) := by decide +kernel
theorem dX6_boundOf_81 : decode cX6_boundOf 81 = .ok (.istore_n 3, 1) := by decide +kernel
theorem dX6_boundOf_82 : decode cX6_boundOf 82 = .ok (.iinc 4 1, 3) := by decide +kernel
theorem dX6_boundOf_85 : decode cX6_boundOf 85 = .ok (.goto (-76), 3) := by decide +kernel
theorem dX6_boundOf_88 : decode cX6_boundOf 88 = .ok (.iload_n 3, 1) := by decide +kernel
theorem dX6_boundOf_89 : decode cX6_boundOf 89 = .ok (.ireturn, 1) := by decide +kernel
theorem dX6_mostByRows_0 : decode cX6_mostByRows 0 = .ok (.aload_n 0, 1) := by decide +kernel
theorem dX6_mostByRows_1 : decode cX6_mostByRows 1 = .ok (.aload_n 0, 1) := by decide +kernel
theorem dX6_mostByRows_2 : decode cX6_mostByRows 2 = .ok (.iload_n 1, 1) := by decide +kernel
theorem dX6_mostByRows_3 : decode cX6_mostByRows 3 = .ok (.invokevirtual 65, 3) := by decide +kernel
theorem dX6_mostByRows_6 : decode cX6_mostByRows 6 = .ok (.ifCond .eq 7, 3) := by decide +kernel
theorem dX6_mostByRows_9 : decode cX6_mostByRows 9 = .ok (.iconst 0, 1) := by decide +kernel
theorem dX6_mostByRows_10 : decode cX6_mostByRows 10 = .ok (.goto 4, 3) := by decide +kernel
theorem dX6_mostByRows_13 : decode cX6_mostByRows 13 = .ok (.iconst 1, 1) := by decide +kernel
theorem dX6_mostByRows_14 : decode cX6_mostByRows 14 = .ok (.invokevirtual 58, 3) := by decide +kernel
theorem dX6_mostByRows_17 : decode cX6_mostByRows 17 = .ok (.ifCond .eq 16, 3) := by decide +kernel
theorem dX6_mostByRows_20 : decode cX6_mostByRows 20 = .ok (.aload_n 0, 1) := by decide +kernel
theorem dX6_mostByRows_21 : decode cX6_mostByRows 21 = .ok (.iload_n 1, 1) := by decide +kernel
theorem dX6_mostByRows_22 : decode cX6_mostByRows 22 = .ok (.aload_n 0, 1) := by decide +kernel
theorem dX6_mostByRows_23 : decode cX6_mostByRows 23 = .ok (.iconst 1, 1) := by decide +kernel
theorem dX6_mostByRows_24 : decode cX6_mostByRows 24 = .ok (.invokevirtual 132, 3) := by decide +kernel
theorem dX6_mostByRows_27 : decode cX6_mostByRows 27 = .ok (.invokevirtual 139, 3) := by decide +kernel
theorem dX6_mostByRows_30 : decode cX6_mostByRows 30 = .ok (.goto 4, 3) := by decide +kernel
theorem dX6_mostByRows_33 : decode cX6_mostByRows 33 = .ok (.iconst 0, 1) := by decide +kernel
theorem dX6_mostByRows_34 : decode cX6_mostByRows 34 = .ok (.ireturn, 1) := by decide +kernel
theorem dX6_rounds_0 : decode cX6_rounds 0 = .ok (.aload_n 0, 1) := by decide +kernel
theorem dX6_rounds_1 : decode cX6_rounds 1 = .ok (.iconst 0, 1) := by decide +kernel
theorem dX6_rounds_2 : decode cX6_rounds 2 = .ok (.putfield 44, 3) := by decide +kernel
theorem dX6_rounds_5 : decode cX6_rounds 5 = .ok (.aload_n 0, 1) := by decide +kernel
theorem dX6_rounds_6 : decode cX6_rounds 6 = .ok (.iconst 0, 1) := by decide +kernel
theorem dX6_rounds_7 : decode cX6_rounds 7 = .ok (.invokevirtual 132, 3) := by decide +kernel
theorem dX6_rounds_10 : decode cX6_rounds 10 = .ok (.ireturn, 1) := by decide +kernel
theorem dX6_round_0 : decode cX6_round 0 = .ok (.aload_n 0, 1) := by decide +kernel
theorem dX6_round_1 : decode cX6_round 1 = .ok (.iload_n 1, 1) := by decide +kernel
theorem dX6_round_2 : decode cX6_round 2 = .ok (.iconst 0, 1) := by decide +kernel
theorem dX6_round_3 : decode cX6_round 3 = .ok (.aload_n 0, 1) := by decide +kernel
theorem dX6_round_4 : decode cX6_round 4 = .ok (.iconst 0, 1) := by decide +kernel
theorem dX6_round_5 : decode cX6_round 5 = .ok (.invokevirtual 132, 3) := by decide +kernel
theorem dX6_round_8 : decode cX6_round 8 = .ok (.iconst 1, 1) := by decide +kernel
theorem dX6_round_9 : decode cX6_round 9 = .ok (.isub, 1) := by decide +kernel
