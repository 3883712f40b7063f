section WK
variable {p : Program} {l : Launch} {e : Env} {s : State} {m : MethodId} {args : Array Value} {below : List Frame} {meth : Method} {c : Code} {D : va_G} {A : Nat → Prop} {Q : State → Prop}
set_option maxRecDepth 100000 in
set_option maxHeartbeats 4000000 in
theorem k_X6_change {b : Nat → Nat} {gm : Nat → ClassId} {mod_thrown : Int} {mod_places : Int} {mod_firings : Int} {mod_fired : Int} {mod_logged : Int} {mod_tokens : Nat → Int} {mod_weights : Nat → Int} {mod_logs : Nat → Int} {mod_marks : Nat → Int} {mod_whence : Nat → Int} {mod_by : Nat → Int} {mod_leads : Nat → Int} {mod_comes : Nat → Int} {mod_costs : Nat → Int} {mod_next : Nat → Int} {mod_found : Nat → Int} (C : JC p s m args meth c cX6_change 3 "MarkingHallModel" D (mT gm) A) (x1 : Int) (x2 : Int) (res : Int) (h : F_X6_change x1 x2 mod_weights = some res) (RET : ∀ (pc : Nat) (lv : List (Nat × Value)), decode cX6_change pc = .ok (.ireturn, 1) → J p l e ({ frames := 1, cells := 0, slots := 0, locals := 23 } : Room) s m args below meth c D A 3 Q 0 0 (mW b gm mod_thrown mod_places mod_firings mod_fired mod_logged mod_tokens mod_weights mod_logs mod_marks mod_whence mod_by mod_leads mod_comes mod_costs mod_next mod_found) pc lv [.int (vI res)]) : J p l e ({ frames := 1, cells := 0, slots := 0, locals := 23 } : Room) s m args below meth c D A 3 Q 0 0 (mW b gm mod_thrown mod_places mod_firings mod_fired mod_logged mod_tokens mod_weights mod_logs mod_marks mod_whence mod_by mod_leads mod_comes mod_costs mod_next mod_found) 0 [(0, .ref (b 0)), (1, .int (vI x1)), (2, .int (vI x2))] [] := by
  unfold F_X6_change at h
  refine j_aload_n C 0 rfl rfl dX6_change_0 ?_
  refine j_iconst C dX6_change_1 ?_
  refine j_iload_n C 1 rfl rfl dX6_change_2 ?_
  refine j_iload_n C 2 rfl rfl dX6_change_3 ?_
  obtain ⟨r1, hr1, h⟩ := Ob_of h
  refine q_X6_68 C (wc := (mW b gm mod_thrown mod_places mod_firings mod_fired mod_logged mod_tokens mod_weights mod_logs mod_marks mod_whence mod_by mod_leads mod_comes mod_costs mod_next mod_found)) (wc' := (mW b gm mod_thrown mod_places mod_firings mod_fired mod_logged mod_tokens mod_weights mod_logs mod_marks mod_whence mod_by mod_leads mod_comes mod_costs mod_next mod_found)) (c_X6_weight l D b gm mod_thrown mod_places mod_firings mod_fired mod_logged mod_tokens mod_weights mod_logs mod_marks mod_whence mod_by mod_leads mod_comes mod_costs mod_next mod_found 1 x1 x2 r1 hr1) ⟨(Nat.le_of_ble_eq_true rfl), (Nat.le_of_ble_eq_true rfl)⟩ rfl rfl 0 rfl rfl (ww _) (ww _) rfl C.2.2.2.2.2.2.1 (Nat.le_of_ble_eq_true rfl) rfl rfl (Nat.zero_le _) (Nat.zero_le _) dX6_change_4 ?_
  refine j_aload_n C 0 rfl rfl dX6_change_7 ?_
  refine j_iconst C dX6_change_8 ?_
  refine j_iload_n C 1 rfl rfl dX6_change_9 ?_
  refine j_iload_n C 2 rfl rfl dX6_change_10 ?_
  obtain ⟨r2, hr2, h⟩ := Ob_of h
  refine q_X6_68 C (wc := (mW b gm mod_thrown mod_places mod_firings mod_fired mod_logged mod_tokens mod_weights mod_logs mod_marks mod_whence mod_by mod_leads mod_comes mod_costs mod_next mod_found)) (wc' := (mW b gm mod_thrown mod_places mod_firings mod_fired mod_logged mod_tokens mod_weights mod_logs mod_marks mod_whence mod_by mod_leads mod_comes mod_costs mod_next mod_found)) (c_X6_weight l D b gm mod_thrown mod_places mod_firings mod_fired mod_logged mod_tokens mod_weights mod_logs mod_marks mod_whence mod_by mod_leads mod_comes mod_costs mod_next mod_found 0 x1 x2 r2 hr2) ⟨(Nat.le_of_ble_eq_true rfl), (Nat.le_of_ble_eq_true rfl)⟩ rfl rfl 0 rfl rfl (ww _) (ww _) rfl C.2.2.2.2.2.2.1 (Nat.le_of_ble_eq_true rfl) rfl rfl (Nat.zero_le _) (Nat.zero_le _) dX6_change_11 ?_
  refine j_isub C dX6_change_14 ?_
  cases h
  exact RET _ _ dX6_change_15
theorem c_X6_change (l : Launch) (D : va_G) (b : Nat → Nat) (gm : Nat → ClassId) (mod_thrown : Int) (mod_places : Int) (mod_firings : Int) (mod_fired : Int) (mod_logged : Int) (mod_tokens : Nat → Int) (mod_weights : Nat → Int) (mod_logs : Nat → Int) (mod_marks : Nat → Int) (mod_whence : Nat → Int) (mod_by : Nat → Int) (mod_leads : Nat → Int) (mod_comes : Nat → Int) (mod_costs : Nat → Int) (mod_next : Nat → Int) (mod_found : Nat → Int) (x1 : Int) (x2 : Int) (res : Int) (h : F_X6_change x1 x2 mod_weights = some res) : Kt l yX6_change cX6_change 3 (some .int) ({ frames := 1, cells := 0, slots := 0, locals := 23 } : Room) D (mT gm) [.ref (b 0), .int (vI x1), .int (vI x2)] (mW b gm mod_thrown mod_places mod_firings mod_fired mod_logged mod_tokens mod_weights mod_logs mod_marks mod_whence mod_by mod_leads mod_comes mod_costs mod_next mod_found) (mW b gm mod_thrown mod_places mod_firings mod_fired mod_logged mod_tokens mod_weights mod_logs mod_marks mod_whence mod_by mod_leads mod_comes mod_costs mod_next mod_found) (some (.int (vI res))) :=
  kt_i (ty := .int) rfl rfl (by decide +kernel) (Nat.le_of_ble_eq_true rfl) (fun C RET => k_X6_change C x1 x2 res h RET)
set_option maxRecDepth 100000 in
set_option maxHeartbeats 4000000 in
theorem k_X6_isRow {b : Nat → Nat} {gm : Nat → ClassId} {mod_thrown : Int} {mod_places : Int} {mod_firings : Int} {mod_fired : Int} {mod_logged : Int} {mod_tokens : Nat → Int} {mod_weights : Nat → Int} {mod_logs : Nat → Int} {mod_marks : Nat → Int} {mod_whence : Nat → Int} {mod_by : Nat → Int} {mod_leads : Nat → Int} {mod_comes : Nat → Int} {mod_costs : Nat → Int} {mod_next : Nat → Int} {mod_found : Nat → Int} (C : JC p s m args meth c cX6_isRow 7 "MarkingHallModel" D (mT gm) A) (x1 : Int) (res : Int) (h : F_X6_isRow x1 mod_places mod_firings mod_weights = some res) (RET : ∀ (pc : Nat) (lv : List (Nat × Value)), (res = 0 ∨ res = 1) → decode cX6_isRow pc = .ok (.ireturn, 1) → J p l e ({ frames := 2, cells := 0, slots := 0, locals := 45 } : Room) s m args below meth c D A 7 Q 0 0 (mW b gm mod_thrown mod_places mod_firings mod_fired mod_logged mod_tokens mod_weights mod_logs mod_marks mod_whence mod_by mod_leads mod_comes mod_costs mod_next mod_found) pc lv [.int (vI res)]) : J p l e ({ frames := 2, cells := 0, slots := 0, locals := 45 } : Room) s m args below meth c D A 7 Q 0 0 (mW b gm mod_thrown mod_places mod_firings mod_fired mod_logged mod_tokens mod_weights mod_logs mod_marks mod_whence mod_by mod_leads mod_comes mod_costs mod_next mod_found) 0 [(0, .ref (b 0)), (1, .int (vI x1))] [] := by
  have J4 : ∀ (n : Nat) (l1 : Int) (l2 : Int) (l3 : Int), F_X6_isRow_b4 mod_places mod_firings mod_weights n l1 l2 l3 = some res → J p l e ({ frames := 2, cells := 0, slots := 0, locals := 45 } : Room) s m args below meth c D A 7 Q 0 0 (mW b gm mod_thrown mod_places mod_firings mod_fired mod_logged mod_tokens mod_weights mod_logs mod_marks mod_whence mod_by mod_leads mod_comes mod_costs mod_next mod_found) 4 [(0, .ref (b 0)), (1, .int (vI l1)), (2, .int (vI l2)), (3, .int (vI l3))] [] := by
    intro n
    induction n with
    | zero => intro l1 l2 l3 h; exact no_h h
    | succ n ih4 =>
      intro l1 l2 l3 h
      replace h : F_X6_isRow_b4_body mod_places mod_firings mod_weights (F_X6_isRow_b4 mod_places mod_firings mod_weights n) l1 l2 l3 = some res := h
      generalize F_X6_isRow_b4 mod_places mod_firings mod_weights n = ag4 at ih4 h
      have J101 : ∀ (l1 : Int) (l3 : Int) (s0 : Int), F_X6_isRow_b101 mod_places mod_firings mod_weights ag4 l1 l3 s0 = some res → J p l e ({ frames := 2, cells := 0, slots := 0, locals := 45 } : Room) s m args below meth c D A 7 Q 0 0 (mW b gm mod_thrown mod_places mod_firings mod_fired mod_logged mod_tokens mod_weights mod_logs mod_marks mod_whence mod_by mod_leads mod_comes mod_costs mod_next mod_found) 101 [(0, .ref (b 0)), (1, .int (vI l1)), (3, .int (vI l3))] [.int (vI s0)] := by
        intro l1 l3 s0 h
        unfold F_X6_isRow_b101 at h
        refine j_istore_n C [(2, .int (vI s0)), (0, .ref (b 0)), (1, .int (vI l1)), (3, .int (vI l3))] rfl rfl (by decide) dX6_isRow_101 ?_
        refine j_iinc C 3 rfl (fun v => [(3, .int (vI v)), (2, .int (vI s0)), (0, .ref (b 0)), (1, .int (vI l1))]) (fun _ => rfl) (by decide) h dX6_isRow_102 (fun v1 h => ?_)
        refine j_goto C 4 (by decide) dX6_isRow_105 ?_
        refine j_lv [2, 3, 1, 0] rfl ?_
        exact ih4 l1 s0 v1 h
      have J100 : ∀ (l1 : Int) (l3 : Int), F_X6_isRow_b100 mod_places mod_firings mod_weights ag4 l1 l3 = some res → J p l e ({ frames := 2, cells := 0, slots := 0, locals := 45 } : Room) s m args below meth c D A 7 Q 0 0 (mW b gm mod_thrown mod_places mod_firings mod_fired mod_logged mod_tokens mod_weights mod_logs mod_marks mod_whence mod_by mod_leads mod_comes mod_costs mod_next mod_found) 100 [(0, .ref (b 0)), (1, .int (vI l1)), (3, .int (vI l3))] [] := by
        intro l1 l3 h
        unfold F_X6_isRow_b100 at h
        refine j_iconst C dX6_isRow_100 ?_
        exact J101 l1 l3 0 h
      have J18 : ∀ (n : Nat) (l1 : Int) (l2 : Int) (l3 : Int) (l4 : Int) (l5 : Int), F_X6_isRow_b18 mod_places mod_firings mod_weights ag4 n l1 l2 l3 l4 l5 = some res → J p l e ({ frames := 2, cells := 0, slots := 0, locals := 45 } : Room) s m args below meth c D A 7 Q 0 0 (mW b gm mod_thrown mod_places mod_firings mod_fired mod_logged mod_tokens mod_weights mod_logs mod_marks mod_whence mod_by mod_leads mod_comes mod_costs mod_next mod_found) 18 [(0, .ref (b 0)), (1, .int (vI l1)), (2, .int (vI l2)), (3, .int (vI l3)), (4, .int (vI l4)), (5, .int (vI l5))] [] := by
        intro n
        induction n with
        | zero => intro l1 l2 l3 l4 l5 h; exact no_h h
        | succ n ih18 =>
          intro l1 l2 l3 l4 l5 h
          replace h : F_X6_isRow_b18_body mod_places mod_firings mod_weights ag4 (F_X6_isRow_b18 mod_places mod_firings mod_weights ag4 n) l1 l2 l3 l4 l5 = some res := h
          generalize F_X6_isRow_b18 mod_places mod_firings mod_weights ag4 n = ag18 at ih18 h
          have J80 : ∀ (l1 : Int) (l3 : Int) (l4 : Int) (l5 : Int) (s0 : Int), F_X6_isRow_b80 mod_places mod_firings mod_weights ag4 ag18 l1 l3 l4 l5 s0 = some res → J p l e ({ frames := 2, cells := 0, slots := 0, locals := 45 } : Room) s m args below meth c D A 7 Q 0 0 (mW b gm mod_thrown mod_places mod_firings mod_fired mod_logged mod_tokens mod_weights mod_logs mod_marks mod_whence mod_by mod_leads mod_comes mod_costs mod_next mod_found) 80 [(0, .ref (b 0)), (1, .int (vI l1)), (3, .int (vI l3)), (4, .int (vI l4)), (5, .int (vI l5))] [.int (vI s0)] := by
            intro l1 l3 l4 l5 s0 h
            unfold F_X6_isRow_b80 at h
            refine j_istore_n C [(2, .int (vI s0)), (0, .ref (b 0)), (1, .int (vI l1)), (3, .int (vI l3)), (4, .int (vI l4)), (5, .int (vI l5))] rfl rfl (by decide) dX6_isRow_80 ?_
            refine j_iinc C 5 rfl (fun v => [(5, .int (vI v)), (2, .int (vI s0)), (0, .ref (b 0)), (1, .int (vI l1)), (3, .int (vI l3)), (4, .int (vI l4))]) (fun _ => rfl) (by decide) h dX6_isRow_81 (fun v2 h => ?_)
            refine j_goto C 18 (by decide) dX6_isRow_84 ?_
            refine j_lv [2, 3, 1, 4, 5, 0] rfl ?_
            exact ih18 l1 s0 l3 l4 v2 h
          have J79 : ∀ (l1 : Int) (l3 : Int) (l4 : Int) (l5 : Int), F_X6_isRow_b79 mod_places mod_firings mod_weights ag4 ag18 l1 l3 l4 l5 = some res → J p l e ({ frames := 2, cells := 0, slots := 0, locals := 45 } : Room) s m args below meth c D A 7 Q 0 0 (mW b gm mod_thrown mod_places mod_firings mod_fired mod_logged mod_tokens mod_weights mod_logs mod_marks mod_whence mod_by mod_leads mod_comes mod_costs mod_next mod_found) 79 [(0, .ref (b 0)), (1, .int (vI l1)), (3, .int (vI l3)), (4, .int (vI l4)), (5, .int (vI l5))] [] := by
            intro l1 l3 l4 l5 h
            unfold F_X6_isRow_b79 at h
            refine j_iconst C dX6_isRow_79 ?_
            exact J80 l1 l3 l4 l5 0 h
          have J75 : ∀ (l1 : Int) (l3 : Int) (l4 : Int) (l5 : Int), F_X6_isRow_b75 mod_places mod_firings mod_weights ag4 ag18 l1 l3 l4 l5 = some res → J p l e ({ frames := 2, cells := 0, slots := 0, locals := 45 } : Room) s m args below meth c D A 7 Q 0 0 (mW b gm mod_thrown mod_places mod_firings mod_fired mod_logged mod_tokens mod_weights mod_logs mod_marks mod_whence mod_by mod_leads mod_comes mod_costs mod_next mod_found) 75 [(0, .ref (b 0)), (1, .int (vI l1)), (3, .int (vI l3)), (4, .int (vI l4)), (5, .int (vI l5))] [] := by
            intro l1 l3 l4 l5 h
            unfold F_X6_isRow_b75 at h
            refine j_iconst C dX6_isRow_75 ?_
            refine j_goto C 80 (by decide) dX6_isRow_76 ?_
            exact J80 l1 l3 l4 l5 1 h
          unfold F_X6_isRow_b18_body at h
          refine j_iload C 5 rfl dX6_isRow_18 ?_
          refine j_aload_n C 0 rfl rfl dX6_isRow_20 ?_
          refine g_X6_48 C (v := .int (vI mod_places)) 0 rfl rfl dX6_isRow_21 ?_
          refine j_icmp_ge C h 87 (by decide) dX6_isRow_24 (fun c12 h => ?_) (fun c12 h => ?_)
          · refine j_iload_n C 2 rfl rfl dX6_isRow_87 ?_
            refine j_if_eq C h 100 (by decide) dX6_isRow_88 (fun c4 h => ?_) (fun c4 h => ?_)
            · refine j_lv [0, 1, 3] rfl ?_
              exact J100 l1 l3 h
            · refine j_iload C 4 rfl dX6_isRow_91 ?_
              refine j_if_ne C h 100 (by decide) dX6_isRow_93 (fun c3 h => ?_) (fun c3 h => ?_)
              · refine j_lv [0, 1, 3] rfl ?_
                exact J100 l1 l3 h
              · refine j_iconst C dX6_isRow_96 ?_
                refine j_goto C 101 (by decide) dX6_isRow_97 ?_
                refine j_lv [0, 1, 3] rfl ?_
                exact J101 l1 l3 1 h
          · refine j_iload_n C 1 rfl rfl dX6_isRow_27 ?_
            refine j_iconst C dX6_isRow_28 ?_
            refine j_aload_n C 0 rfl rfl dX6_isRow_29 ?_
            refine g_X6_48 C (v := .int (vI mod_places)) 0 rfl rfl dX6_isRow_30 ?_
            refine j_iload C 5 rfl dX6_isRow_33 ?_
            obtain ⟨r5, hr5, h⟩ := Ob_of h
            refine q_X6_116 C (wc := (mW b gm mod_thrown mod_places mod_firings mod_fired mod_logged mod_tokens mod_weights mod_logs mod_marks mod_whence mod_by mod_leads mod_comes mod_costs mod_next mod_found)) (wc' := (mW b gm mod_thrown mod_places mod_firings mod_fired mod_logged mod_tokens mod_weights mod_logs mod_marks mod_whence mod_by mod_leads mod_comes mod_costs mod_next mod_found)) (c_X6_digit l D _ _ l1 4 mod_places l5 r5 hr5) ⟨(Nat.le_of_ble_eq_true rfl), (Nat.le_of_ble_eq_true rfl)⟩ rfl rfl rfl (ww _) (ww _) rfl C.2.2.2.2.2.2.1 (Nat.le_of_ble_eq_true rfl) rfl rfl (Nat.zero_le _) (Nat.zero_le _) dX6_isRow_35 ?_
            refine j_istore C [(6, .int (vI r5)), (0, .ref (b 0)), (1, .int (vI l1)), (2, .int (vI l2)), (3, .int (vI l3)), (4, .int (vI l4)), (5, .int (vI l5))] rfl (by decide) dX6_isRow_38 ?_
            refine j_iload C 5 rfl dX6_isRow_40 ?_
            refine j_iload C 0 rfl dX6_isRow_42 ?_
            refine j_aload_n C 1 rfl rfl dX6_isRow_44 ?_
            refine j_iload_n C 4 rfl rfl dX6_isRow_45 ?_
            refine j_iload C 6 rfl dX6_isRow_46 ?_
            obtain ⟨r6, hr6, h⟩ := Ob_of h
            refine q_X6_120 C (wc := (mW b gm mod_thrown mod_places mod_firings mod_fired mod_logged mod_tokens mod_weights mod_logs mod_marks mod_whence mod_by mod_leads mod_comes mod_costs mod_next mod_found)) (wc' := (mW b gm mod_thrown mod_places mod_firings mod_fired mod_logged mod_tokens mod_weights mod_logs mod_marks mod_whence mod_by mod_leads mod_comes mod_costs mod_next mod_found)) (c_X6_change l D b gm mod_thrown mod_places mod_firings mod_fired mod_logged mod_tokens mod_weights mod_logs mod_marks mod_whence mod_by mod_leads mod_comes mod_costs mod_next mod_found l3 l5 r6 hr6) ⟨(Nat.le_of_ble_eq_true rfl), (Nat.le_of_ble_eq_true rfl)⟩ rfl rfl 0 rfl rfl (ww _) (ww _) rfl C.2.2.2.2.2.2.1 (Nat.le_of_ble_eq_true rfl) rfl rfl (Nat.zero_le _) (Nat.zero_le _) dX6_isRow_48 ?_
            refine j_imul C dX6_isRow_51 ?_
            refine j_iadd C dX6_isRow_52 ?_
            refine j_nm h (fun v7 h => ?_)
            refine j_istore C [(4, .int (vI v7)), (6, .int (vI r5)), (0, .ref (b 0)), (1, .int (vI l1)), (2, .int (vI l2)), (3, .int (vI l3)), (5, .int (vI l5))] rfl (by decide) dX6_isRow_53 ?_
            refine j_iload_n C 4 rfl rfl dX6_isRow_55 ?_
            refine j_if_eq C h 79 (by decide) dX6_isRow_56 (fun c11 h => ?_) (fun c11 h => ?_)
            · refine j_lv [2, 3, 5, 0, 6] rfl ?_
              exact J79 l1 l3 v7 l5 h
            · refine j_iload C 1 rfl dX6_isRow_59 ?_
              refine j_if_eq C h 75 (by decide) dX6_isRow_61 (fun c10 h => ?_) (fun c10 h => ?_)
              · refine j_lv [2, 3, 5, 0, 6] rfl ?_
                exact J75 l1 l3 v7 l5 h
              · refine j_aload_n C 2 rfl rfl dX6_isRow_64 ?_
                refine j_iconst C dX6_isRow_65 ?_
                refine j_iload_n C 5 rfl rfl dX6_isRow_66 ?_
                refine j_iload C 6 rfl dX6_isRow_67 ?_
                obtain ⟨r8, hr8, h⟩ := Ob_of h
                refine q_X6_68 C (wc := (mW b gm mod_thrown mod_places mod_firings mod_fired mod_logged mod_tokens mod_weights mod_logs mod_marks mod_whence mod_by mod_leads mod_comes mod_costs mod_next mod_found)) (wc' := (mW b gm mod_thrown mod_places mod_firings mod_fired mod_logged mod_tokens mod_weights mod_logs mod_marks mod_whence mod_by mod_leads mod_comes mod_costs mod_next mod_found)) (c_X6_weight l D b gm mod_thrown mod_places mod_firings mod_fired mod_logged mod_tokens mod_weights mod_logs mod_marks mod_whence mod_by mod_leads mod_comes mod_costs mod_next mod_found 4 l3 l5 r8 hr8) ⟨(Nat.le_of_ble_eq_true rfl), (Nat.le_of_ble_eq_true rfl)⟩ rfl rfl 0 rfl rfl (ww _) (ww _) rfl C.2.2.2.2.2.2.1 (Nat.le_of_ble_eq_true rfl) rfl rfl (Nat.zero_le _) (Nat.zero_le _) dX6_isRow_69 ?_
                refine j_if_ne C h 79 (by decide) dX6_isRow_72 (fun c9 h => ?_) (fun c9 h => ?_)
                · refine j_lv [2, 3, 5, 0, 6] rfl ?_
                  exact J79 l1 l3 v7 l5 h
                · refine j_lv [2, 3, 5, 0, 6] rfl ?_
                  exact J75 l1 l3 v7 l5 h
      unfold F_X6_isRow_b4_body at h
      refine j_iload_n C 3 rfl rfl dX6_isRow_4 ?_
      refine j_aload_n C 0 rfl rfl dX6_isRow_5 ?_
      refine g_X6_55 C (v := .int (vI mod_firings)) 0 rfl rfl dX6_isRow_6 ?_
      refine j_icmp_ge C h 108 (by decide) dX6_isRow_9 (fun c14 h => ?_) (fun c14 h => ?_)
      · refine j_iload_n C 2 rfl rfl dX6_isRow_108 ?_
        obtain ⟨hz13, h⟩ := G_of h
        cases h
        exact RET _ _ hz13 dX6_isRow_109
      · refine j_iconst C dX6_isRow_12 ?_
        refine j_istore C [(4, .int (vI 0)), (0, .ref (b 0)), (1, .int (vI l1)), (2, .int (vI l2)), (3, .int (vI l3))] rfl (by decide) dX6_isRow_13 ?_
        refine j_iconst C dX6_isRow_15 ?_
        refine j_istore C [(5, .int (vI 0)), (4, .int (vI 0)), (0, .ref (b 0)), (1, .int (vI l1)), (2, .int (vI l2)), (3, .int (vI l3))] rfl (by decide) dX6_isRow_16 ?_
        refine j_lv [2, 3, 4, 5, 1, 0] rfl ?_
        exact J18 NN l1 l2 l3 0 0 h
  unfold F_X6_isRow at h
  refine j_iconst C dX6_isRow_0 ?_
  refine j_istore_n C [(2, .int (vI 1)), (0, .ref (b 0)), (1, .int (vI x1))] rfl rfl (by decide) dX6_isRow_1 ?_
  refine j_iconst C dX6_isRow_2 ?_
  refine j_istore_n C [(3, .int (vI 0)), (2, .int (vI 1)), (0, .ref (b 0)), (1, .int (vI x1))] rfl rfl (by decide) dX6_isRow_3 ?_
  refine j_lv [2, 3, 1, 0] rfl ?_
  exact J4 NN x1 1 0 h
theorem c_X6_isRow (l : Launch) (D : va_G) (b : Nat → Nat) (gm : Nat → ClassId) (mod_thrown : Int) (mod_places : Int) (mod_firings : Int) (mod_fired : Int) (mod_logged : Int) (mod_tokens : Nat → Int) (mod_weights : Nat → Int) (mod_logs : Nat → Int) (mod_marks : Nat → Int) (mod_whence : Nat → Int) (mod_by : Nat → Int) (mod_leads : Nat → Int) (mod_comes : Nat → Int) (mod_costs : Nat → Int) (mod_next : Nat → Int) (mod_found : Nat → Int) (x1 : Int) (res : Int) (h : F_X6_isRow x1 mod_places mod_firings mod_weights = some res) : Kt l yX6_isRow cX6_isRow 7 (some .boolean) ({ frames := 2, cells := 0, slots := 0, locals := 45 } : Room) D (mT gm) [.ref (b 0), .int (vI x1)] (mW b gm mod_thrown mod_places mod_firings mod_fired mod_logged mod_tokens mod_weights mod_logs mod_marks mod_whence mod_by mod_leads mod_comes mod_costs mod_next mod_found) (mW b gm mod_thrown mod_places mod_firings mod_fired mod_logged mod_tokens mod_weights mod_logs mod_marks mod_whence mod_by mod_leads mod_comes mod_costs mod_next mod_found) (some (.int (vI res))) :=
  kt_z rfl (by decide +kernel) (Nat.le_of_ble_eq_true rfl) (fun C RET => k_X6_isRow C x1 res h RET)
set_option maxRecDepth 100000 in
set_option maxHeartbeats 4000000 in
theorem k_X6_isRound {b : Nat → Nat} {gm : Nat → ClassId} {mod_thrown : Int} {mod_places : Int} {mod_firings : Int} {mod_fired : Int} {mod_logged : Int} {mod_tokens : Nat → Int} {mod_weights : Nat → Int} {mod_logs : Nat → Int} {mod_marks : Nat → Int} {mod_whence : Nat → Int} {mod_by : Nat → Int} {mod_leads : Nat → Int} {mod_comes : Nat → Int} {mod_costs : Nat → Int} {mod_next : Nat → Int} {mod_found : Nat → Int} (C : JC p s m args meth c cX6_isRound 7 "MarkingHallModel" D (mT gm) A) (x1 : Int) (res : Int) (h : F_X6_isRound x1 mod_places mod_firings mod_weights = some res) (RET : ∀ (pc : Nat) (lv : List (Nat × Value)), (res = 0 ∨ res = 1) → decode cX6_isRound pc = .ok (.ireturn, 1) → J p l e ({ frames := 2, cells := 0, slots := 0, locals := 45 } : Room) s m args below meth c D A 7 Q 0 0 (mW b gm mod_thrown mod_places mod_firings mod_fired mod_logged mod_tokens mod_weights mod_logs mod_marks mod_whence mod_by mod_leads mod_comes mod_costs mod_next mod_found) pc lv [.int (vI res)]) : J p l e ({ frames := 2, cells := 0, slots := 0, locals := 45 } : Room) s m args below meth c D A 7 Q 0 0 (mW b gm mod_thrown mod_places mod_firings mod_fired mod_logged mod_tokens mod_weights mod_logs mod_marks mod_whence mod_by mod_leads mod_comes mod_costs mod_next mod_found) 0 [(0, .ref (b 0)), (1, .int (vI x1))] [] := by
  have J4 : ∀ (n : Nat) (l1 : Int) (l2 : Int) (l3 : Int), F_X6_isRound_b4 mod_places mod_firings mod_weights n l1 l2 l3 = some res → J p l e ({ frames := 2, cells := 0, slots := 0, locals := 45 } : Room) s m args below meth c D A 7 Q 0 0 (mW b gm mod_thrown mod_places mod_firings mod_fired mod_logged mod_tokens mod_weights mod_logs mod_marks mod_whence mod_by mod_leads mod_comes mod_costs mod_next mod_found) 4 [(0, .ref (b 0)), (1, .int (vI l1)), (2, .int (vI l2)), (3, .int (vI l3))] [] := by
    intro n
    induction n with
    | zero => intro l1 l2 l3 h; exact no_h h
    | succ n ih4 =>
      intro l1 l2 l3 h
      replace h : F_X6_isRound_b4_body mod_places mod_firings mod_weights (F_X6_isRound_b4 mod_places mod_firings mod_weights n) l1 l2 l3 = some res := h
      generalize F_X6_isRound_b4 mod_places mod_firings mod_weights n = ag4 at ih4 h
      have J101 : ∀ (l1 : Int) (l3 : Int) (s0 : Int), F_X6_isRound_b101 mod_places mod_firings mod_weights ag4 l1 l3 s0 = some res → J p l e ({ frames := 2, cells := 0, slots := 0, locals := 45 } : Room) s m args below meth c D A 7 Q 0 0 (mW b gm mod_thrown mod_places mod_firings mod_fired mod_logged mod_tokens mod_weights mod_logs mod_marks mod_whence mod_by mod_leads mod_comes mod_costs mod_next mod_found) 101 [(0, .ref (b 0)), (1, .int (vI l1)), (3, .int (vI l3))] [.int (vI s0)] := by
        intro l1 l3 s0 h
        unfold F_X6_isRound_b101 at h
        refine j_istore_n C [(2, .int (vI s0)), (0, .ref (b 0)), (1, .int (vI l1)), (3, .int (vI l3))] rfl rfl (by decide) dX6_isRound_101 ?_
        refine j_iinc C 3 rfl (fun v => [(3, .int (vI v)), (2, .int (vI s0)), (0, .ref (b 0)), (1, .int (vI l1))]) (fun _ => rfl) (by decide) h dX6_isRound_102 (fun v1 h => ?_)
        refine j_goto C 4 (by decide) dX6_isRound_105 ?_
        refine j_lv [2, 3, 1, 0] rfl ?_
        exact ih4 l1 s0 v1 h
      have J100 : ∀ (l1 : Int) (l3 : Int), F_X6_isRound_b100 mod_places mod_firings mod_weights ag4 l1 l3 = some res → J p l e ({ frames := 2, cells := 0, slots := 0, locals := 45 } : Room) s m args below meth c D A 7 Q 0 0 (mW b gm mod_thrown mod_places mod_firings mod_fired mod_logged mod_tokens mod_weights mod_logs mod_marks mod_whence mod_by mod_leads mod_comes mod_costs mod_next mod_found) 100 [(0, .ref (b 0)), (1, .int (vI l1)), (3, .int (vI l3))] [] := by
        intro l1 l3 h
        unfold F_X6_isRound_b100 at h
        refine j_iconst C dX6_isRound_100 ?_
        exact J101 l1 l3 0 h
      have J18 : ∀ (n : Nat) (l1 : Int) (l2 : Int) (l3 : Int) (l4 : Int) (l5 : Int), F_X6_isRound_b18 mod_places mod_firings mod_weights ag4 n l1 l2 l3 l4 l5 = some res → J p l e ({ frames := 2, cells := 0, slots := 0, locals := 45 } : Room) s m args below meth c D A 7 Q 0 0 (mW b gm mod_thrown mod_places mod_firings mod_fired mod_logged mod_tokens mod_weights mod_logs mod_marks mod_whence mod_by mod_leads mod_comes mod_costs mod_next mod_found) 18 [(0, .ref (b 0)), (1, .int (vI l1)), (2, .int (vI l2)), (3, .int (vI l3)), (4, .int (vI l4)), (5, .int (vI l5))] [] := by
        intro n
        induction n with
        | zero => intro l1 l2 l3 l4 l5 h; exact no_h h
        | succ n ih18 =>
          intro l1 l2 l3 l4 l5 h
          replace h : F_X6_isRound_b18_body mod_places mod_firings mod_weights ag4 (F_X6_isRound_b18 mod_places mod_firings mod_weights ag4 n) l1 l2 l3 l4 l5 = some res := h
          generalize F_X6_isRound_b18 mod_places mod_firings mod_weights ag4 n = ag18 at ih18 h
          have J80 : ∀ (l1 : Int) (l3 : Int) (l4 : Int) (l5 : Int) (s0 : Int), F_X6_isRound_b80 mod_places mod_firings mod_weights ag4 ag18 l1 l3 l4 l5 s0 = some res → J p l e ({ frames := 2, cells := 0, slots := 0, locals := 45 } : Room) s m args below meth c D A 7 Q 0 0 (mW b gm mod_thrown mod_places mod_firings mod_fired mod_logged mod_tokens mod_weights mod_logs mod_marks mod_whence mod_by mod_leads mod_comes mod_costs mod_next mod_found) 80 [(0, .ref (b 0)), (1, .int (vI l1)), (3, .int (vI l3)), (4, .int (vI l4)), (5, .int (vI l5))] [.int (vI s0)] := by
            intro l1 l3 l4 l5 s0 h
            unfold F_X6_isRound_b80 at h
            refine j_istore_n C [(2, .int (vI s0)), (0, .ref (b 0)), (1, .int (vI l1)), (3, .int (vI l3)), (4, .int (vI l4)), (5, .int (vI l5))] rfl rfl (by decide) dX6_isRound_80 ?_
            refine j_iinc C 5 rfl (fun v => [(5, .int (vI v)), (2, .int (vI s0)), (0, .ref (b 0)), (1, .int (vI l1)), (3, .int (vI l3)), (4, .int (vI l4))]) (fun _ => rfl) (by decide) h dX6_isRound_81 (fun v2 h => ?_)
            refine j_goto C 18 (by decide) dX6_isRound_84 ?_
            refine j_lv [2, 3, 1, 4, 5, 0] rfl ?_
            exact ih18 l1 s0 l3 l4 v2 h
          have J79 : ∀ (l1 : Int) (l3 : Int) (l4 : Int) (l5 : Int), F_X6_isRound_b79 mod_places mod_firings mod_weights ag4 ag18 l1 l3 l4 l5 = some res → J p l e ({ frames := 2, cells := 0, slots := 0, locals := 45 } : Room) s m args below meth c D A 7 Q 0 0 (mW b gm mod_thrown mod_places mod_firings mod_fired mod_logged mod_tokens mod_weights mod_logs mod_marks mod_whence mod_by mod_leads mod_comes mod_costs mod_next mod_found) 79 [(0, .ref (b 0)), (1, .int (vI l1)), (3, .int (vI l3)), (4, .int (vI l4)), (5, .int (vI l5))] [] := by
            intro l1 l3 l4 l5 h
            unfold F_X6_isRound_b79 at h
            refine j_iconst C dX6_isRound_79 ?_
            exact J80 l1 l3 l4 l5 0 h
          have J75 : ∀ (l1 : Int) (l3 : Int) (l4 : Int) (l5 : Int), F_X6_isRound_b75 mod_places mod_firings mod_weights ag4 ag18 l1 l3 l4 l5 = some res → J p l e ({ frames := 2, cells := 0, slots := 0, locals := 45 } : Room) s m args below meth c D A 7 Q 0 0 (mW b gm mod_thrown mod_places mod_firings mod_fired mod_logged mod_tokens mod_weights mod_logs mod_marks mod_whence mod_by mod_leads mod_comes mod_costs mod_next mod_found) 75 [(0, .ref (b 0)), (1, .int (vI l1)), (3, .int (vI l3)), (4, .int (vI l4)), (5, .int (vI l5))] [] := by
            intro l1 l3 l4 l5 h
            unfold F_X6_isRound_b75 at h
            refine j_iconst C dX6_isRound_75 ?_
            refine j_goto C 80 (by decide) dX6_isRound_76 ?_
            exact J80 l1 l3 l4 l5 1 h
          unfold F_X6_isRound_b18_body at h
          refine j_iload C 5 rfl dX6_isRound_18 ?_
          refine j_aload_n C 0 rfl rfl dX6_isRound_20 ?_
          refine g_X6_55 C (v := .int (vI mod_firings)) 0 rfl rfl dX6_isRound_21 ?_
          refine j_icmp_ge C h 87 (by decide) dX6_isRound_24 (fun c12 h => ?_) (fun c12 h => ?_)
          · refine j_iload_n C 2 rfl rfl dX6_isRound_87 ?_
            refine j_if_eq C h 100 (by decide) dX6_isRound_88 (fun c4 h => ?_) (fun c4 h => ?_)
            · refine j_lv [0, 1, 3] rfl ?_
              exact J100 l1 l3 h
            · refine j_iload C 4 rfl dX6_isRound_91 ?_
              refine j_if_ne C h 100 (by decide) dX6_isRound_93 (fun c3 h => ?_) (fun c3 h => ?_)
              · refine j_lv [0, 1, 3] rfl ?_
                exact J100 l1 l3 h
              · refine j_iconst C dX6_isRound_96 ?_
                refine j_goto C 101 (by decide) dX6_isRound_97 ?_
                refine j_lv [0, 1, 3] rfl ?_
                exact J101 l1 l3 1 h
          · refine j_iload_n C 1 rfl rfl dX6_isRound_27 ?_
            refine j_iconst C dX6_isRound_28 ?_
            refine j_aload_n C 0 rfl rfl dX6_isRound_29 ?_
            refine g_X6_55 C (v := .int (vI mod_firings)) 0 rfl rfl dX6_isRound_30 ?_
            refine j_iload C 5 rfl dX6_isRound_33 ?_
            obtain ⟨r5, hr5, h⟩ := Ob_of h
            refine q_X6_116 C (wc := (mW b gm mod_thrown mod_places mod_firings mod_fired mod_logged mod_tokens mod_weights mod_logs mod_marks mod_whence mod_by mod_leads mod_comes mod_costs mod_next mod_found)) (wc' := (mW b gm mod_thrown mod_places mod_firings mod_fired mod_logged mod_tokens mod_weights mod_logs mod_marks mod_whence mod_by mod_leads mod_comes mod_costs mod_next mod_found)) (c_X6_digit l D _ _ l1 3 mod_firings l5 r5 hr5) ⟨(Nat.le_of_ble_eq_true rfl), (Nat.le_of_ble_eq_true rfl)⟩ rfl rfl rfl (ww _) (ww _) rfl C.2.2.2.2.2.2.1 (Nat.le_of_ble_eq_true rfl) rfl rfl (Nat.zero_le _) (Nat.zero_le _) dX6_isRound_35 ?_
            refine j_istore C [(6, .int (vI r5)), (0, .ref (b 0)), (1, .int (vI l1)), (2, .int (vI l2)), (3, .int (vI l3)), (4, .int (vI l4)), (5, .int (vI l5))] rfl (by decide) dX6_isRound_38 ?_
            refine j_iload C 5 rfl dX6_isRound_40 ?_
            refine j_iload C 0 rfl dX6_isRound_42 ?_
            refine j_aload_n C 1 rfl rfl dX6_isRound_44 ?_
            refine j_iload C 6 rfl dX6_isRound_45 ?_
            refine j_iload_n C 4 rfl rfl dX6_isRound_47 ?_
            obtain ⟨r6, hr6, h⟩ := Ob_of h
            refine q_X6_120 C (wc := (mW b gm mod_thrown mod_places mod_firings mod_fired mod_logged mod_tokens mod_weights mod_logs mod_marks mod_whence mod_by mod_leads mod_comes mod_costs mod_next mod_found)) (wc' := (mW b gm mod_thrown mod_places mod_firings mod_fired mod_logged mod_tokens mod_weights mod_logs mod_marks mod_whence mod_by mod_leads mod_comes mod_costs mod_next mod_found)) (c_X6_change l D b gm mod_thrown mod_places mod_firings mod_fired mod_logged mod_tokens mod_weights mod_logs mod_marks mod_whence mod_by mod_leads mod_comes mod_costs mod_next mod_found l5 l3 r6 hr6) ⟨(Nat.le_of_ble_eq_true rfl), (Nat.le_of_ble_eq_true rfl)⟩ rfl rfl 0 rfl rfl (ww _) (ww _) rfl C.2.2.2.2.2.2.1 (Nat.le_of_ble_eq_true rfl) rfl rfl (Nat.zero_le _) (Nat.zero_le _) dX6_isRound_48 ?_
            refine j_imul C dX6_isRound_51 ?_
            refine j_iadd C dX6_isRound_52 ?_
            refine j_nm h (fun v7 h => ?_)
            refine j_istore C [(4, .int (vI v7)), (6, .int (vI r5)), (0, .ref (b 0)), (1, .int (vI l1)), (2, .int (vI l2)), (3, .int (vI l3)), (5, .int (vI l5))] rfl (by decide) dX6_isRound_53 ?_
            refine j_iload_n C 4 rfl rfl dX6_isRound_55 ?_
            refine j_if_eq C h 79 (by decide) dX6_isRound_56 (fun c11 h => ?_) (fun c11 h => ?_)
            · refine j_lv [2, 3, 5, 0, 6] rfl ?_
              exact J79 l1 l3 v7 l5 h
            · refine j_iload C 1 rfl dX6_isRound_59 ?_
              refine j_if_eq C h 75 (by decide) dX6_isRound_61 (fun c10 h => ?_) (fun c10 h => ?_)
              · refine j_lv [2, 3, 5, 0, 6] rfl ?_
                exact J75 l1 l3 v7 l5 h
              · refine j_aload_n C 2 rfl rfl dX6_isRound_64 ?_
                refine j_iconst C dX6_isRound_65 ?_
                refine j_iload C 6 rfl dX6_isRound_66 ?_
                refine j_iload_n C 5 rfl rfl dX6_isRound_68 ?_
                obtain ⟨r8, hr8, h⟩ := Ob_of h
                refine q_X6_68 C (wc := (mW b gm mod_thrown mod_places mod_firings mod_fired mod_logged mod_tokens mod_weights mod_logs mod_marks mod_whence mod_by mod_leads mod_comes mod_costs mod_next mod_found)) (wc' := (mW b gm mod_thrown mod_places mod_firings mod_fired mod_logged mod_tokens mod_weights mod_logs mod_marks mod_whence mod_by mod_leads mod_comes mod_costs mod_next mod_found)) (c_X6_weight l D b gm mod_thrown mod_places mod_firings mod_fired mod_logged mod_tokens mod_weights mod_logs mod_marks mod_whence mod_by mod_leads mod_comes mod_costs mod_next mod_found 4 l5 l3 r8 hr8) ⟨(Nat.le_of_ble_eq_true rfl), (Nat.le_of_ble_eq_true rfl)⟩ rfl rfl 0 rfl rfl (ww _) (ww _) rfl C.2.2.2.2.2.2.1 (Nat.le_of_ble_eq_true rfl) rfl rfl (Nat.zero_le _) (Nat.zero_le _) dX6_isRound_69 ?_
                refine j_if_ne C h 79 (by decide) dX6_isRound_72 (fun c9 h => ?_) (fun c9 h => ?_)
                · refine j_lv [2, 3, 5, 0, 6] rfl ?_
                  exact J79 l1 l3 v7 l5 h
                · refine j_lv [2, 3, 5, 0, 6] rfl ?_
                  exact J75 l1 l3 v7 l5 h
      unfold F_X6_isRound_b4_body at h
      refine j_iload_n C 3 rfl rfl dX6_isRound_4 ?_
      refine j_aload_n C 0 rfl rfl dX6_isRound_5 ?_
      refine g_X6_48 C (v := .int (vI mod_places)) 0 rfl rfl dX6_isRound_6 ?_
      refine j_icmp_ge C h 108 (by decide) dX6_isRound_9 (fun c14 h => ?_) (fun c14 h => ?_)
      · refine j_iload_n C 2 rfl rfl dX6_isRound_108 ?_
        obtain ⟨hz13, h⟩ := G_of h
        cases h
        exact RET _ _ hz13 dX6_isRound_109
      · refine j_iconst C dX6_isRound_12 ?_
        refine j_istore C [(4, .int (vI 0)), (0, .ref (b 0)), (1, .int (vI l1)), (2, .int (vI l2)), (3, .int (vI l3))] rfl (by decide) dX6_isRound_13 ?_
        refine j_iconst C dX6_isRound_15 ?_
        refine j_istore C [(5, .int (vI 0)), (4, .int (vI 0)), (0, .ref (b 0)), (1, .int (vI l1)), (2, .int (vI l2)), (3, .int (vI l3))] rfl (by decide) dX6_isRound_16 ?_
        refine j_lv [2, 3, 4, 5, 1, 0] rfl ?_
        exact J18 NN l1 l2 l3 0 0 h
  unfold F_X6_isRound at h
  refine j_iconst C dX6_isRound_0 ?_
  refine j_istore_n C [(2, .int (vI 1)), (0, .ref (b 0)), (1, .int (vI x1))] rfl rfl (by decide) dX6_isRound_1 ?_
  refine j_iconst C dX6_isRound_2 ?_
  refine j_istore_n C [(3, .int (vI 0)), (2, .int (vI 1)), (0, .ref (b 0)), (1, .int (vI x1))] rfl rfl (by decide) dX6_isRound_3 ?_
  refine j_lv [2, 3, 1, 0] rfl ?_
  exact J4 NN x1 1 0 h
theorem c_X6_isRound (l : Launch) (D : va_G) (b : Nat → Nat) (gm : Nat → ClassId) (mod_thrown : Int) (mod_places : Int) (mod_firings : Int) (mod_fired : Int) (mod_logged : Int) (mod_tokens : Nat → Int) (mod_weights : Nat → Int) (mod_logs : Nat → Int) (mod_marks : Nat → Int) (mod_whence : Nat → Int) (mod_by : Nat → Int) (mod_leads : Nat → Int) (mod_comes : Nat → Int) (mod_costs : Nat → Int) (mod_next : Nat → Int) (mod_found : Nat → Int) (x1 : Int) (res : Int) (h : F_X6_isRound x1 mod_places mod_firings mod_weights = some res) : Kt l yX6_isRound cX6_isRound 7 (some .boolean) ({ frames := 2, cells := 0, slots := 0, locals := 45 } : Room) D (mT gm) [.ref (b 0), .int (vI x1)] (mW b gm mod_thrown mod_places mod_firings mod_fired mod_logged mod_tokens mod_weights mod_logs mod_marks mod_whence mod_by mod_leads mod_comes mod_costs mod_next mod_found) (mW b gm mod_thrown mod_places mod_firings mod_fired mod_logged mod_tokens mod_weights mod_logs mod_marks mod_whence mod_by mod_leads mod_comes mod_costs mod_next mod_found) (some (.int (vI res))) :=
  kt_z rfl (by decide +kernel) (Nat.le_of_ble_eq_true rfl) (fun C RET => k_X6_isRound C x1 res h RET)
set_option maxRecDepth 100000 in
set_option maxHeartbeats 4000000 in
theorem k_X6_isBelow {ws : va_W} {tys : List (ClassId × FieldType)} (C : JC p s m args meth c cX6_isBelow 6 "MarkingHallModel" D tys A) (x0 : Int) (x1 : Int) (x2 : Int) (res : Int) (h : F_X6_isBelow x0 x1 x2 = some res) (RET : ∀ (pc : Nat) (lv : List (Nat × Value)), (res = 0 ∨ res = 1) → decode cX6_isBelow pc = .ok (.ireturn, 1) → J p l e ({ frames := 0, cells := 0, slots := 0, locals := 0 } : Room) s m args below meth c D A 6 Q 0 0 ws pc lv [.int (vI res)]) : J p l e ({ frames := 0, cells := 0, slots := 0, locals := 0 } : Room) s m args below meth c D A 6 Q 0 0 ws 0 [(0, .int (vI x0)), (1, .int (vI x1)), (2, .int (vI x2))] [] := by
  have J8 : ∀ (n : Nat) (l2 : Int) (l3 : Int) (l4 : Int) (l5 : Int), F_X6_isBelow_b8 n l2 l3 l4 l5 = some res → J p l e ({ frames := 0, cells := 0, slots := 0, locals := 0 } : Room) s m args below meth c D A 6 Q 0 0 ws 8 [(2, .int (vI l2)), (3, .int (vI l3)), (4, .int (vI l4)), (5, .int (vI l5))] [] := by
    intro n
    induction n with
    | zero => intro l2 l3 l4 l5 h; exact no_h h
    | succ n ih8 =>
      intro l2 l3 l4 l5 h
      replace h : F_X6_isBelow_b8_body (F_X6_isBelow_b8 n) l2 l3 l4 l5 = some res := h
      generalize F_X6_isBelow_b8 n = ag8 at ih8 h
      have J32 : ∀ (l2 : Int) (l3 : Int) (l4 : Int) (s0 : Int), F_X6_isBelow_b32 ag8 l2 l3 l4 s0 = some res → J p l e ({ frames := 0, cells := 0, slots := 0, locals := 0 } : Room) s m args below meth c D A 6 Q 0 0 ws 32 [(2, .int (vI l2)), (3, .int (vI l3)), (4, .int (vI l4))] [.int (vI s0)] := by
        intro l2 l3 l4 s0 h
        unfold F_X6_isBelow_b32 at h
        refine j_istore C [(5, .int (vI s0)), (2, .int (vI l2)), (3, .int (vI l3)), (4, .int (vI l4))] rfl (by decide) dX6_isBelow_32 ?_
        refine j_iload_n C 2 rfl rfl dX6_isBelow_34 ?_
        refine j_iload_n C 1 rfl rfl dX6_isBelow_35 ?_
        refine j_idiv C h dX6_isBelow_36 (fun h => ?_)
        refine j_nm h (fun v1 h => ?_)
        refine j_istore_n C [(3, .int (vI v1)), (5, .int (vI s0)), (2, .int (vI l2)), (4, .int (vI l4))] rfl rfl (by decide) dX6_isBelow_37 ?_
        refine j_iload C 3 rfl dX6_isBelow_38 ?_
        refine j_iload_n C 2 rfl rfl dX6_isBelow_40 ?_
        refine j_idiv C h dX6_isBelow_41 (fun h => ?_)
        refine j_nm h (fun v2 h => ?_)
        refine j_istore C [(4, .int (vI v2)), (3, .int (vI v1)), (5, .int (vI s0)), (2, .int (vI l2))] rfl (by decide) dX6_isBelow_42 ?_
        refine j_goto C 8 (by decide) dX6_isBelow_44 ?_
        refine j_lv [3, 1, 0, 2] rfl ?_
        exact ih8 l2 v1 v2 s0 h
      have J31 : ∀ (l2 : Int) (l3 : Int) (l4 : Int), F_X6_isBelow_b31 ag8 l2 l3 l4 = some res → J p l e ({ frames := 0, cells := 0, slots := 0, locals := 0 } : Room) s m args below meth c D A 6 Q 0 0 ws 31 [(2, .int (vI l2)), (3, .int (vI l3)), (4, .int (vI l4))] [] := by
        intro l2 l3 l4 h
        unfold F_X6_isBelow_b31 at h
        refine j_iconst C dX6_isBelow_31 ?_
        exact J32 l2 l3 l4 0 h
      unfold F_X6_isBelow_b8_body at h
      refine j_iload_n C 1 rfl rfl dX6_isBelow_8 ?_
      refine j_if_le C h 47 (by decide) dX6_isBelow_9 (fun c8 h => ?_) (fun c8 h => ?_)
      · refine j_iload C 3 rfl dX6_isBelow_47 ?_
        obtain ⟨hz3, h⟩ := G_of h
        cases h
        exact RET _ _ hz3 dX6_isBelow_49
      · refine j_iload C 3 rfl dX6_isBelow_12 ?_
        refine j_if_eq C h 31 (by decide) dX6_isBelow_14 (fun c7 h => ?_) (fun c7 h => ?_)
        · refine j_lv [0, 1, 2] rfl ?_
          exact J31 l2 l3 l4 h
        · refine j_iload_n C 1 rfl rfl dX6_isBelow_17 ?_
          refine j_iload_n C 0 rfl rfl dX6_isBelow_18 ?_
          refine j_irem C h dX6_isBelow_19 (fun h => ?_)
          refine j_iload C 2 rfl dX6_isBelow_20 ?_
          refine j_iload_n C 0 rfl rfl dX6_isBelow_22 ?_
          refine j_irem C h dX6_isBelow_23 (fun h => ?_)
          refine j_nm h (fun v4 h => ?_)
          refine j_nm2 h (fun v5 h => ?_)
          refine j_icmp_gt C h 31 (by decide) dX6_isBelow_24 (fun c6 h => ?_) (fun c6 h => ?_)
          · refine j_lv [0, 1, 2] rfl ?_
            exact J31 l2 l3 l4 h
          · refine j_iconst C dX6_isBelow_27 ?_
            refine j_goto C 32 (by decide) dX6_isBelow_28 ?_
            refine j_lv [0, 1, 2] rfl ?_
            exact J32 l2 l3 l4 1 h
  unfold F_X6_isBelow at h
  refine j_iload_n C 0 rfl rfl dX6_isBelow_0 ?_
  refine j_istore_n C [(3, .int (vI x0)), (0, .int (vI x0)), (1, .int (vI x1)), (2, .int (vI x2))] rfl rfl (by decide) dX6_isBelow_1 ?_
  refine j_iload_n C 2 rfl rfl dX6_isBelow_2 ?_
  refine j_istore C [(4, .int (vI x1)), (3, .int (vI x0)), (0, .int (vI x0)), (1, .int (vI x1)), (2, .int (vI x2))] rfl (by decide) dX6_isBelow_3 ?_
  refine j_iconst C dX6_isBelow_5 ?_
  refine j_istore C [(5, .int (vI 1)), (4, .int (vI x1)), (3, .int (vI x0)), (0, .int (vI x0)), (1, .int (vI x1)), (2, .int (vI x2))] rfl (by decide) dX6_isBelow_6 ?_
  refine j_lv [5, 2, 1, 0] rfl ?_
  exact J8 NN x2 x0 x1 1 h
theorem c_X6_isBelow (l : Launch) (D : va_G) (tys : List (ClassId × FieldType)) (ws : va_W) (x0 : Int) (x1 : Int) (x2 : Int) (res : Int) (h : F_X6_isBelow x0 x1 x2 = some res) : Kt l yX6_isBelow cX6_isBelow 6 (some .boolean) ({ frames := 0, cells := 0, slots := 0, locals := 0 } : Room) D tys [.int (vI x0), .int (vI x1), .int (vI x2)] ws ws (some (.int (vI res))) :=
  kt_z rfl (by decide +kernel) (Nat.le_of_ble_eq_true rfl) (fun C RET => k_X6_isBelow C x0 x1 x2 res h RET)
set_option maxRecDepth 100000 in
set_option maxHeartbeats 4000000 in
theorem k_X6_findLeast {b : Nat → Nat} {gm : Nat → ClassId} {mod_thrown : Int} {mod_places : Int} {mod_firings : Int} {mod_fired : Int} {mod_logged : Int} {mod_tokens : Nat → Int} {mod_weights : Nat → Int} {mod_logs : Nat → Int} {mod_marks : Nat → Int} {mod_whence : Nat → Int} {mod_by : Nat → Int} {mod_leads : Nat → Int} {mod_comes : Nat → Int} {mod_costs : Nat → Int} {mod_next : Nat → Int} {mod_found : Nat → Int} (C : JC p s m args meth c cX6_findLeast 8 "MarkingHallModel" D (mT gm) A) (x1 : Int) (res : Int × (Nat → Int)) (h : F_X6_findLeast x1 mod_places mod_firings mod_weights mod_found = some res) (RET : ∀ (pc : Nat) (lv : List (Nat × Value)), decode cX6_findLeast pc = .ok (.ireturn, 1) → J p l e ({ frames := 3, cells := 0, slots := 0, locals := 71 } : Room) s m args below meth c D A 8 Q 0 0 (mW b gm mod_thrown mod_places mod_firings mod_fired mod_logged mod_tokens mod_weights mod_logs mod_marks mod_whence mod_by mod_leads mod_comes mod_costs mod_next res.2) pc lv [.int (vI res.1)]) : J p l e ({ frames := 3, cells := 0, slots := 0, locals := 71 } : Room) s m args below meth c D A 8 Q 0 0 (mW b gm mod_thrown mod_places mod_firings mod_fired mod_logged mod_tokens mod_weights mod_logs mod_marks mod_whence mod_by mod_leads mod_comes mod_costs mod_next mod_found) 0 [(0, .ref (b 0)), (1, .int (vI x1))] [] := by
  have J51 : ∀ (n : Nat) (l1 : Int) (l2 : Int) (l3 : Int) (l4 : Int) (l5 : Int) (mod_found : Nat → Int), F_X6_findLeast_b51 mod_places mod_firings mod_weights n l1 l2 l3 l4 l5 mod_found = some res → J p l e ({ frames := 3, cells := 0, slots := 0, locals := 71 } : Room) s m args below meth c D A 8 Q 0 0 (mW b gm mod_thrown mod_places mod_firings mod_fired mod_logged mod_tokens mod_weights mod_logs mod_marks mod_whence mod_by mod_leads mod_comes mod_costs mod_next mod_found) 51 [(0, .ref (b 0)), (1, .int (vI l1)), (2, .int (vI l2)), (3, .int (vI l3)), (4, .int (vI l4)), (5, .int (vI l5))] [] := by
    intro n
    induction n with
    | zero => intro l1 l2 l3 l4 l5 mod_found h; exact no_h h
    | succ n ih51 =>
      intro l1 l2 l3 l4 l5 mod_found h
      replace h : F_X6_findLeast_b51_body mod_places mod_firings mod_weights (F_X6_findLeast_b51 mod_places mod_firings mod_weights n) l1 l2 l3 l4 l5 mod_found = some res := h
      generalize F_X6_findLeast_b51 mod_places mod_firings mod_weights n = ag51 at ih51 h
      have J139 : ∀ (l1 : Int) (l2 : Int) (l3 : Int) (l4 : Int) (l5 : Int) (mod_found : Nat → Int), F_X6_findLeast_b139 mod_places mod_firings mod_weights ag51 l1 l2 l3 l4 l5 mod_found = some res → J p l e ({ frames := 3, cells := 0, slots := 0, locals := 71 } : Room) s m args below meth c D A 8 Q 0 0 (mW b gm mod_thrown mod_places mod_firings mod_fired mod_logged mod_tokens mod_weights mod_logs mod_marks mod_whence mod_by mod_leads mod_comes mod_costs mod_next mod_found) 139 [(0, .ref (b 0)), (1, .int (vI l1)), (2, .int (vI l2)), (3, .int (vI l3)), (4, .int (vI l4)), (5, .int (vI l5))] [] := by
        intro l1 l2 l3 l4 l5 mod_found h
        unfold F_X6_findLeast_b139 at h
        refine j_iinc C 5 rfl (fun v => [(5, .int (vI v)), (0, .ref (b 0)), (1, .int (vI l1)), (2, .int (vI l2)), (3, .int (vI l3)), (4, .int (vI l4))]) (fun _ => rfl) (by decide) h dX6_findLeast_139 (fun v1 h => ?_)
        refine j_goto C 51 (by decide) dX6_findLeast_142 ?_
        refine j_lv [1, 2, 3, 4, 5, 0] rfl ?_
        exact ih51 l1 l2 l3 l4 v1 mod_found h
      have J122 : ∀ (l1 : Int) (l2 : Int) (l3 : Int) (l4 : Int) (l5 : Int) (l6 : Int) (mod_found : Nat → Int), F_X6_findLeast_b122 mod_places mod_firings mod_weights ag51 l1 l2 l3 l4 l5 l6 mod_found = some res → J p l e ({ frames := 3, cells := 0, slots := 0, locals := 71 } : Room) s m args below meth c D A 8 Q 0 0 (mW b gm mod_thrown mod_places mod_firings mod_fired mod_logged mod_tokens mod_weights mod_logs mod_marks mod_whence mod_by mod_leads mod_comes mod_costs mod_next mod_found) 122 [(0, .ref (b 0)), (1, .int (vI l1)), (2, .int (vI l2)), (3, .int (vI l3)), (4, .int (vI l4)), (5, .int (vI l5)), (6, .int (vI l6))] [] := by
        intro l1 l2 l3 l4 l5 l6 mod_found h
        unfold F_X6_findLeast_b122 at h
        refine j_iload C 6 rfl dX6_findLeast_122 ?_
        refine j_if_eq C h 139 (by decide) dX6_findLeast_124 (fun c4 h => ?_) (fun c4 h => ?_)
        · refine j_lv [0, 1, 2, 3, 4, 5] rfl ?_
          exact J139 l1 l2 l3 l4 l5 mod_found h
        · refine j_aload_n C 0 rfl rfl dX6_findLeast_127 ?_
          refine g_X6_41 C (v := .ref (b 11)) 0 rfl rfl dX6_findLeast_128 ?_
          refine j_iload C 4 rfl dX6_findLeast_131 ?_
          refine j_iload C 5 rfl dX6_findLeast_133 ?_
          refine j_iast C 11 10 rfl rfl (Nat.le_of_ble_eq_true rfl) (fun f' => (mW b gm mod_thrown mod_places mod_firings mod_fired mod_logged mod_tokens mod_weights mod_logs mod_marks mod_whence mod_by mod_leads mod_comes mod_costs mod_next f')) (fun _ => rfl) h dX6_findLeast_135 (fun f2 h => ?_)
          refine j_iinc C 4 rfl (fun v => [(4, .int (vI v)), (0, .ref (b 0)), (1, .int (vI l1)), (2, .int (vI l2)), (3, .int (vI l3)), (5, .int (vI l5)), (6, .int (vI l6))]) (fun _ => rfl) (by decide) h dX6_findLeast_136 (fun v3 h => ?_)
          refine j_lv [1, 2, 3, 4, 0, 5] rfl ?_
          exact J139 l1 l2 l3 v3 l5 f2 h
      have J81 : ∀ (n : Nat) (l1 : Int) (l2 : Int) (l3 : Int) (l4 : Int) (l5 : Int) (l6 : Int) (l7 : Int) (mod_found : Nat → Int), F_X6_findLeast_b81 mod_places mod_firings mod_weights ag51 n l1 l2 l3 l4 l5 l6 l7 mod_found = some res → J p l e ({ frames := 3, cells := 0, slots := 0, locals := 71 } : Room) s m args below meth c D A 8 Q 0 0 (mW b gm mod_thrown mod_places mod_firings mod_fired mod_logged mod_tokens mod_weights mod_logs mod_marks mod_whence mod_by mod_leads mod_comes mod_costs mod_next mod_found) 81 [(0, .ref (b 0)), (1, .int (vI l1)), (2, .int (vI l2)), (3, .int (vI l3)), (4, .int (vI l4)), (5, .int (vI l5)), (6, .int (vI l6)), (7, .int (vI l7))] [] := by
        intro n
        induction n with
        | zero => intro l1 l2 l3 l4 l5 l6 l7 mod_found h; exact no_h h
        | succ n ih81 =>
          intro l1 l2 l3 l4 l5 l6 l7 mod_found h
          replace h : F_X6_findLeast_b81_body mod_places mod_firings mod_weights ag51 (F_X6_findLeast_b81 mod_places mod_firings mod_weights ag51 n) l1 l2 l3 l4 l5 l6 l7 mod_found = some res := h
          generalize F_X6_findLeast_b81 mod_places mod_firings mod_weights ag51 n = ag81 at ih81 h
          have J114 : ∀ (l1 : Int) (l2 : Int) (l3 : Int) (l4 : Int) (l5 : Int) (l7 : Int) (s0 : Int) (mod_found : Nat → Int), F_X6_findLeast_b114 mod_places mod_firings mod_weights ag51 ag81 l1 l2 l3 l4 l5 l7 s0 mod_found = some res → J p l e ({ frames := 3, cells := 0, slots := 0, locals := 71 } : Room) s m args below meth c D A 8 Q 0 0 (mW b gm mod_thrown mod_places mod_firings mod_fired mod_logged mod_tokens mod_weights mod_logs mod_marks mod_whence mod_by mod_leads mod_comes mod_costs mod_next mod_found) 114 [(0, .ref (b 0)), (1, .int (vI l1)), (2, .int (vI l2)), (3, .int (vI l3)), (4, .int (vI l4)), (5, .int (vI l5)), (7, .int (vI l7))] [.int (vI s0)] := by
            intro l1 l2 l3 l4 l5 l7 s0 mod_found h
            unfold F_X6_findLeast_b114 at h
            refine j_istore C [(6, .int (vI s0)), (0, .ref (b 0)), (1, .int (vI l1)), (2, .int (vI l2)), (3, .int (vI l3)), (4, .int (vI l4)), (5, .int (vI l5)), (7, .int (vI l7))] rfl (by decide) dX6_findLeast_114 ?_
            refine j_iinc C 7 rfl (fun v => [(7, .int (vI v)), (6, .int (vI s0)), (0, .ref (b 0)), (1, .int (vI l1)), (2, .int (vI l2)), (3, .int (vI l3)), (4, .int (vI l4)), (5, .int (vI l5))]) (fun _ => rfl) (by decide) h dX6_findLeast_116 (fun v5 h => ?_)
            refine j_goto C 81 (by decide) dX6_findLeast_119 ?_
            refine j_lv [2, 3, 4, 5, 6, 7, 1, 0] rfl ?_
            exact ih81 l1 l2 l3 l4 l5 s0 v5 mod_found h
          unfold F_X6_findLeast_b81_body at h
          refine j_iload C 7 rfl dX6_findLeast_81 ?_
          refine j_iload C 4 rfl dX6_findLeast_83 ?_
          refine j_icmp_ge C h 122 (by decide) dX6_findLeast_85 (fun c10 h => ?_) (fun c10 h => ?_)
          · refine j_lv [0, 1, 2, 3, 4, 5, 6] rfl ?_
            exact J122 l1 l2 l3 l4 l5 l6 mod_found h
          · refine j_iload C 6 rfl dX6_findLeast_88 ?_
            refine j_if_eq C h 122 (by decide) dX6_findLeast_90 (fun c9 h => ?_) (fun c9 h => ?_)
            · refine j_lv [0, 1, 2, 3, 4, 5, 6] rfl ?_
              exact J122 l1 l2 l3 l4 l5 l6 mod_found h
            · refine j_aload_n C 0 rfl rfl dX6_findLeast_93 ?_
              refine g_X6_41 C (v := .ref (b 11)) 0 rfl rfl dX6_findLeast_94 ?_
              refine j_iload C 7 rfl dX6_findLeast_97 ?_
              refine j_iald C 11 10 rfl rfl (Nat.le_of_ble_eq_true rfl) h dX6_findLeast_99 (fun v6 h => ?_)
              refine j_iload C 5 rfl dX6_findLeast_100 ?_
              refine j_iload_n C 2 rfl rfl dX6_findLeast_102 ?_
              obtain ⟨r7, hr7, h⟩ := Ob_of h
              refine q_X6_129 C (wc := (mW b gm mod_thrown mod_places mod_firings mod_fired mod_logged mod_tokens mod_weights mod_logs mod_marks mod_whence mod_by mod_leads mod_comes mod_costs mod_next mod_found)) (wc' := (mW b gm mod_thrown mod_places mod_firings mod_fired mod_logged mod_tokens mod_weights mod_logs mod_marks mod_whence mod_by mod_leads mod_comes mod_costs mod_next mod_found)) (c_X6_isBelow l D _ _ v6 l5 l2 r7 hr7) ⟨(Nat.le_of_ble_eq_true rfl), (Nat.le_of_ble_eq_true rfl)⟩ rfl rfl rfl (ww _) (ww _) rfl C.2.2.2.2.2.2.1 (Nat.le_of_ble_eq_true rfl) rfl rfl (Nat.zero_le _) (Nat.zero_le _) dX6_findLeast_103 ?_
              refine j_if_ne C h 113 (by decide) dX6_findLeast_106 (fun c8 h => ?_) (fun c8 h => ?_)
              · refine j_iconst C dX6_findLeast_113 ?_
                refine j_lv [0, 1, 2, 3, 4, 5, 7] rfl ?_
                exact J114 l1 l2 l3 l4 l5 l7 0 mod_found h
              · refine j_iconst C dX6_findLeast_109 ?_
                refine j_goto C 114 (by decide) dX6_findLeast_110 ?_
                refine j_lv [0, 1, 2, 3, 4, 5, 7] rfl ?_
                exact J114 l1 l2 l3 l4 l5 l7 1 mod_found h
      have J76 : ∀ (l1 : Int) (l2 : Int) (l3 : Int) (l4 : Int) (l5 : Int) (s0 : Int) (mod_found : Nat → Int), F_X6_findLeast_b76 mod_places mod_firings mod_weights ag51 l1 l2 l3 l4 l5 s0 mod_found = some res → J p l e ({ frames := 3, cells := 0, slots := 0, locals := 71 } : Room) s m args below meth c D A 8 Q 0 0 (mW b gm mod_thrown mod_places mod_firings mod_fired mod_logged mod_tokens mod_weights mod_logs mod_marks mod_whence mod_by mod_leads mod_comes mod_costs mod_next mod_found) 76 [(0, .ref (b 0)), (1, .int (vI l1)), (2, .int (vI l2)), (3, .int (vI l3)), (4, .int (vI l4)), (5, .int (vI l5))] [.int (vI s0)] := by
        intro l1 l2 l3 l4 l5 s0 mod_found h
        unfold F_X6_findLeast_b76 at h
        refine j_istore C [(6, .int (vI s0)), (0, .ref (b 0)), (1, .int (vI l1)), (2, .int (vI l2)), (3, .int (vI l3)), (4, .int (vI l4)), (5, .int (vI l5))] rfl (by decide) dX6_findLeast_76 ?_
        refine j_iconst C dX6_findLeast_78 ?_
        refine j_istore C [(7, .int (vI 0)), (6, .int (vI s0)), (0, .ref (b 0)), (1, .int (vI l1)), (2, .int (vI l2)), (3, .int (vI l3)), (4, .int (vI l4)), (5, .int (vI l5))] rfl (by decide) dX6_findLeast_79 ?_
        refine j_lv [2, 3, 4, 5, 6, 7, 1, 0] rfl ?_
        exact J81 NN l1 l2 l3 l4 l5 s0 0 mod_found h
      unfold F_X6_findLeast_b51_body at h
      refine j_iload C 5 rfl dX6_findLeast_51 ?_
      refine j_iload_n C 3 rfl rfl dX6_findLeast_53 ?_
      refine j_icmp_ge C h 145 (by decide) dX6_findLeast_54 (fun c14 h => ?_) (fun c14 h => ?_)
      · refine j_iload C 4 rfl dX6_findLeast_145 ?_
        cases h
        exact RET _ _ dX6_findLeast_147
      · refine j_iload_n C 1 rfl rfl dX6_findLeast_57 ?_
        refine j_if_eq C h 70 (by decide) dX6_findLeast_58 (fun c13 h => ?_) (fun c13 h => ?_)
        · refine j_aload_n C 0 rfl rfl dX6_findLeast_70 ?_
          refine j_iload C 5 rfl dX6_findLeast_71 ?_
          obtain ⟨r11, hr11, h⟩ := Ob_of h
          refine q_X6_126 C (wc := (mW b gm mod_thrown mod_places mod_firings mod_fired mod_logged mod_tokens mod_weights mod_logs mod_marks mod_whence mod_by mod_leads mod_comes mod_costs mod_next mod_found)) (wc' := (mW b gm mod_thrown mod_places mod_firings mod_fired mod_logged mod_tokens mod_weights mod_logs mod_marks mod_whence mod_by mod_leads mod_comes mod_costs mod_next mod_found)) (c_X6_isRound l D b gm mod_thrown mod_places mod_firings mod_fired mod_logged mod_tokens mod_weights mod_logs mod_marks mod_whence mod_by mod_leads mod_comes mod_costs mod_next mod_found l5 r11 hr11) ⟨(Nat.le_of_ble_eq_true rfl), (Nat.le_of_ble_eq_true rfl)⟩ rfl rfl 0 rfl rfl (ww _) (ww _) rfl C.2.2.2.2.2.2.1 (Nat.le_of_ble_eq_true rfl) rfl rfl (Nat.zero_le _) (Nat.zero_le _) dX6_findLeast_73 ?_
          exact J76 l1 l2 l3 l4 l5 r11 mod_found h
        · refine j_aload_n C 0 rfl rfl dX6_findLeast_61 ?_
          refine j_iload C 5 rfl dX6_findLeast_62 ?_
          obtain ⟨r12, hr12, h⟩ := Ob_of h
          refine q_X6_123 C (wc := (mW b gm mod_thrown mod_places mod_firings mod_fired mod_logged mod_tokens mod_weights mod_logs mod_marks mod_whence mod_by mod_leads mod_comes mod_costs mod_next mod_found)) (wc' := (mW b gm mod_thrown mod_places mod_firings mod_fired mod_logged mod_tokens mod_weights mod_logs mod_marks mod_whence mod_by mod_leads mod_comes mod_costs mod_next mod_found)) (c_X6_isRow l D b gm mod_thrown mod_places mod_firings mod_fired mod_logged mod_tokens mod_weights mod_logs mod_marks mod_whence mod_by mod_leads mod_comes mod_costs mod_next mod_found l5 r12 hr12) ⟨(Nat.le_of_ble_eq_true rfl), (Nat.le_of_ble_eq_true rfl)⟩ rfl rfl 0 rfl rfl (ww _) (ww _) rfl C.2.2.2.2.2.2.1 (Nat.le_of_ble_eq_true rfl) rfl rfl (Nat.zero_le _) (Nat.zero_le _) dX6_findLeast_64 ?_
          refine j_goto C 76 (by decide) dX6_findLeast_67 ?_
          exact J76 l1 l2 l3 l4 l5 r12 mod_found h
  have J15 : ∀ (n : Nat) (l1 : Int) (l2 : Int) (l3 : Int) (l4 : Int) (mod_found : Nat → Int), F_X6_findLeast_b15 mod_places mod_firings mod_weights n l1 l2 l3 l4 mod_found = some res → J p l e ({ frames := 3, cells := 0, slots := 0, locals := 71 } : Room) s m args below meth c D A 8 Q 0 0 (mW b gm mod_thrown mod_places mod_firings mod_fired mod_logged mod_tokens mod_weights mod_logs mod_marks mod_whence mod_by mod_leads mod_comes mod_costs mod_next mod_found) 15 [(0, .ref (b 0)), (1, .int (vI l1)), (2, .int (vI l2)), (3, .int (vI l3)), (4, .int (vI l4))] [] := by
    intro n
    induction n with
    | zero => intro l1 l2 l3 l4 mod_found h; exact no_h h
    | succ n ih15 =>
      intro l1 l2 l3 l4 mod_found h
      replace h : F_X6_findLeast_b15_body mod_places mod_firings mod_weights (F_X6_findLeast_b15 mod_places mod_firings mod_weights n) l1 l2 l3 l4 mod_found = some res := h
      generalize F_X6_findLeast_b15 mod_places mod_firings mod_weights n = ag15 at ih15 h
      have J32 : ∀ (l1 : Int) (l2 : Int) (l3 : Int) (l4 : Int) (s0 : Int) (s1 : Int) (mod_found : Nat → Int), F_X6_findLeast_b32 mod_places mod_firings mod_weights ag15 l1 l2 l3 l4 s0 s1 mod_found = some res → J p l e ({ frames := 3, cells := 0, slots := 0, locals := 71 } : Room) s m args below meth c D A 8 Q 0 0 (mW b gm mod_thrown mod_places mod_firings mod_fired mod_logged mod_tokens mod_weights mod_logs mod_marks mod_whence mod_by mod_leads mod_comes mod_costs mod_next mod_found) 32 [(0, .ref (b 0)), (1, .int (vI l1)), (2, .int (vI l2)), (3, .int (vI l3)), (4, .int (vI l4))] [.int (vI s1), .int (vI s0)] := by
        intro l1 l2 l3 l4 s0 s1 mod_found h
        unfold F_X6_findLeast_b32 at h
        refine j_icmp_ge C h 45 (by decide) dX6_findLeast_32 (fun c17 h => ?_) (fun c17 h => ?_)
        · refine j_iconst C dX6_findLeast_45 ?_
          refine j_istore C [(4, .int (vI 0)), (0, .ref (b 0)), (1, .int (vI l1)), (2, .int (vI l2)), (3, .int (vI l3))] rfl (by decide) dX6_findLeast_46 ?_
          refine j_iconst C dX6_findLeast_48 ?_
          refine j_istore C [(5, .int (vI 1)), (4, .int (vI 0)), (0, .ref (b 0)), (1, .int (vI l1)), (2, .int (vI l2)), (3, .int (vI l3))] rfl (by decide) dX6_findLeast_49 ?_
          refine j_lv [2, 3, 4, 5, 1, 0] rfl ?_
          exact J51 NN l1 l2 l3 0 1 mod_found h
        · refine j_iload_n C 3 rfl rfl dX6_findLeast_35 ?_
          refine j_iload_n C 2 rfl rfl dX6_findLeast_36 ?_
          refine j_imul C dX6_findLeast_37 ?_
          refine j_nm h (fun v15 h => ?_)
          refine j_istore_n C [(3, .int (vI v15)), (0, .ref (b 0)), (1, .int (vI l1)), (2, .int (vI l2)), (4, .int (vI l4))] rfl rfl (by decide) dX6_findLeast_38 ?_
          refine j_iinc C 4 rfl (fun v => [(4, .int (vI v)), (3, .int (vI v15)), (0, .ref (b 0)), (1, .int (vI l1)), (2, .int (vI l2))]) (fun _ => rfl) (by decide) h dX6_findLeast_39 (fun v16 h => ?_)
          refine j_goto C 15 (by decide) dX6_findLeast_42 ?_
          refine j_lv [2, 3, 4, 1, 0] rfl ?_
          exact ih15 l1 l2 v15 v16 mod_found h
      unfold F_X6_findLeast_b15_body at h
      refine j_iload C 4 rfl dX6_findLeast_15 ?_
      refine j_iload_n C 1 rfl rfl dX6_findLeast_17 ?_
      refine j_if_eq C h 28 (by decide) dX6_findLeast_18 (fun c18 h => ?_) (fun c18 h => ?_)
      · refine j_aload_n C 0 rfl rfl dX6_findLeast_28 ?_
        refine g_X6_55 C (v := .int (vI mod_firings)) 0 rfl rfl dX6_findLeast_29 ?_
        exact J32 l1 l2 l3 l4 l4 mod_firings mod_found h
      · refine j_aload_n C 0 rfl rfl dX6_findLeast_21 ?_
        refine g_X6_48 C (v := .int (vI mod_places)) 0 rfl rfl dX6_findLeast_22 ?_
        refine j_goto C 32 (by decide) dX6_findLeast_25 ?_
        exact J32 l1 l2 l3 l4 l4 mod_places mod_found h
  have J9 : ∀ (l1 : Int) (s0 : Int) (mod_found : Nat → Int), F_X6_findLeast_b9 mod_places mod_firings mod_weights l1 s0 mod_found = some res → J p l e ({ frames := 3, cells := 0, slots := 0, locals := 71 } : Room) s m args below meth c D A 8 Q 0 0 (mW b gm mod_thrown mod_places mod_firings mod_fired mod_logged mod_tokens mod_weights mod_logs mod_marks mod_whence mod_by mod_leads mod_comes mod_costs mod_next mod_found) 9 [(0, .ref (b 0)), (1, .int (vI l1))] [.int (vI s0)] := by
    intro l1 s0 mod_found h
    unfold F_X6_findLeast_b9 at h
    refine j_istore_n C [(2, .int (vI s0)), (0, .ref (b 0)), (1, .int (vI l1))] rfl rfl (by decide) dX6_findLeast_9 ?_
    refine j_iconst C dX6_findLeast_10 ?_
    refine j_istore_n C [(3, .int (vI 1)), (2, .int (vI s0)), (0, .ref (b 0)), (1, .int (vI l1))] rfl rfl (by decide) dX6_findLeast_11 ?_
    refine j_iconst C dX6_findLeast_12 ?_
    refine j_istore C [(4, .int (vI 0)), (3, .int (vI 1)), (2, .int (vI s0)), (0, .ref (b 0)), (1, .int (vI l1))] rfl (by decide) dX6_findLeast_13 ?_
    refine j_lv [3, 4, 2, 1, 0] rfl ?_
    exact J15 NN l1 s0 1 0 mod_found h
  unfold F_X6_findLeast at h
  refine j_iload_n C 1 rfl rfl dX6_findLeast_0 ?_
  refine j_if_eq C h 8 (by decide) dX6_findLeast_1 (fun c19 h => ?_) (fun c19 h => ?_)
  · refine j_iconst C dX6_findLeast_8 ?_
    exact J9 x1 3 mod_found h
  · refine j_iconst C dX6_findLeast_4 ?_
    refine j_goto C 9 (by decide) dX6_findLeast_5 ?_
    exact J9 x1 4 mod_found h
theorem c_X6_findLeast (l : Launch) (D : va_G) (b : Nat → Nat) (gm : Nat → ClassId) (mod_thrown : Int) (mod_places : Int) (mod_firings : Int) (mod_fired : Int) (mod_logged : Int) (mod_tokens : Nat → Int) (mod_weights : Nat → Int) (mod_logs : Nat → Int) (mod_marks : Nat → Int) (mod_whence : Nat → Int) (mod_by : Nat → Int) (mod_leads : Nat → Int) (mod_comes : Nat → Int) (mod_costs : Nat → Int) (mod_next : Nat → Int) (mod_found : Nat → Int) (x1 : Int) (res : Int × (Nat → Int)) (h : F_X6_findLeast x1 mod_places mod_firings mod_weights mod_found = some res) : Kt l yX6_findLeast cX6_findLeast 8 (some .int) ({ frames := 3, cells := 0, slots := 0, locals := 71 } : Room) D (mT gm) [.ref (b 0), .int (vI x1)] (mW b gm mod_thrown mod_places mod_firings mod_fired mod_logged mod_tokens mod_weights mod_logs mod_marks mod_whence mod_by mod_leads mod_comes mod_costs mod_next mod_found) (mW b gm mod_thrown mod_places mod_firings mod_fired mod_logged mod_tokens mod_weights mod_logs mod_marks mod_whence mod_by mod_leads mod_comes mod_costs mod_next res.2) (some (.int (vI res.1))) :=
  kt_i (ty := .int) rfl rfl (by decide +kernel) (Nat.le_of_ble_eq_true rfl) (fun C RET => k_X6_findLeast C x1 res h RET)
set_option maxRecDepth 100000 in
set_option maxHeartbeats 4000000 in
theorem k_X6_rows {b : Nat → Nat} {gm : Nat → ClassId} {mod_thrown : Int} {mod_places : Int} {mod_firings : Int} {mod_fired : Int} {mod_logged : Int} {mod_tokens : Nat → Int} {mod_weights : Nat → Int} {mod_logs : Nat → Int} {mod_marks : Nat → Int} {mod_whence : Nat → Int} {mod_by : Nat → Int} {mod_leads : Nat → Int} {mod_comes : Nat → Int} {mod_costs : Nat → Int} {mod_next : Nat → Int} {mod_found : Nat → Int} (C : JC p s m args meth c cX6_rows 1 "MarkingHallModel" D (mT gm) A)  (res : Int × (Int) × (Nat → Int)) (h : F_X6_rows mod_places mod_firings mod_weights mod_thrown mod_found = some res) (RET : ∀ (pc : Nat) (lv : List (Nat × Value)), decode cX6_rows pc = .ok (.ireturn, 1) → J p l e ({ frames := 4, cells := 0, slots := 0, locals := 98 } : Room) s m args below meth c D A 1 Q 0 0 (mW b gm res.2.1 mod_places mod_firings mod_fired mod_logged mod_tokens mod_weights mod_logs mod_marks mod_whence mod_by mod_leads mod_comes mod_costs mod_next res.2.2) pc lv [.int (vI res.1)]) : J p l e ({ frames := 4, cells := 0, slots := 0, locals := 98 } : Room) s m args below meth c D A 1 Q 0 0 (mW b gm mod_thrown mod_places mod_firings mod_fired mod_logged mod_tokens mod_weights mod_logs mod_marks mod_whence mod_by mod_leads mod_comes mod_costs mod_next mod_found) 0 [(0, .ref (b 0))] [] := by
  unfold F_X6_rows at h
  refine j_aload_n C 0 rfl rfl dX6_rows_0 ?_
  refine j_iconst C dX6_rows_1 ?_
  refine p_X6_44 C 0 rfl (Nat.le_of_ble_eq_true rfl) (mW b gm 0 mod_places mod_firings mod_fired mod_logged mod_tokens mod_weights mod_logs mod_marks mod_whence mod_by mod_leads mod_comes mod_costs mod_next mod_found) rfl dX6_rows_2 ?_
  refine j_aload_n C 0 rfl rfl dX6_rows_5 ?_
  refine j_iconst C dX6_rows_6 ?_
  obtain ⟨r1, hr1, h⟩ := Ob_of h
  refine q_X6_132 C (wc := (mW b gm 0 mod_places mod_firings mod_fired mod_logged mod_tokens mod_weights mod_logs mod_marks mod_whence mod_by mod_leads mod_comes mod_costs mod_next mod_found)) (wc' := (mW b gm 0 mod_places mod_firings mod_fired mod_logged mod_tokens mod_weights mod_logs mod_marks mod_whence mod_by mod_leads mod_comes mod_costs mod_next r1.2)) (c_X6_findLeast l D b gm 0 mod_places mod_firings mod_fired mod_logged mod_tokens mod_weights mod_logs mod_marks mod_whence mod_by mod_leads mod_comes mod_costs mod_next mod_found 1 r1 hr1) ⟨(Nat.le_of_ble_eq_true rfl), (Nat.le_of_ble_eq_true rfl)⟩ rfl rfl 0 rfl rfl (ww _) (ww _) mW_ha C.2.2.2.2.2.2.1 (Nat.le_of_ble_eq_true rfl) rfl rfl (Nat.zero_le _) (Nat.zero_le _) dX6_rows_7 ?_
  cases h
  exact RET _ _ dX6_rows_10
theorem c_X6_rows (l : Launch) (D : va_G) (b : Nat → Nat) (gm : Nat → ClassId) (mod_thrown : Int) (mod_places : Int) (mod_firings : Int) (mod_fired : Int) (mod_logged : Int) (mod_tokens : Nat → Int) (mod_weights : Nat → Int) (mod_logs : Nat → Int) (mod_marks : Nat → Int) (mod_whence : Nat → Int) (mod_by : Nat → Int) (mod_leads : Nat → Int) (mod_comes : Nat → Int) (mod_costs : Nat → Int) (mod_next : Nat → Int) (mod_found : Nat → Int)  (res : Int × (Int) × (Nat → Int)) (h : F_X6_rows mod_places mod_firings mod_weights mod_thrown mod_found = some res) : Kt l yX6_rows cX6_rows 1 (some .int) ({ frames := 4, cells := 0, slots := 0, locals := 98 } : Room) D (mT gm) [.ref (b 0)] (mW b gm mod_thrown mod_places mod_firings mod_fired mod_logged mod_tokens mod_weights mod_logs mod_marks mod_whence mod_by mod_leads mod_comes mod_costs mod_next mod_found) (mW b gm res.2.1 mod_places mod_firings mod_fired mod_logged mod_tokens mod_weights mod_logs mod_marks mod_whence mod_by mod_leads mod_comes mod_costs mod_next res.2.2) (some (.int (vI res.1))) :=
  kt_i (ty := .int) rfl rfl (by decide +kernel) (Nat.le_of_ble_eq_true rfl) (fun C RET => k_X6_rows C res h RET)
set_option maxRecDepth 100000 in
set_option maxHeartbeats 4000000 in
theorem k_X6_row {b : Nat → Nat} {gm : Nat → ClassId} {mod_thrown : Int} {mod_places : Int} {mod_firings : Int} {mod_fired : Int} {mod_logged : Int} {mod_tokens : Nat → Int} {mod_weights : Nat → Int} {mod_logs : Nat → Int} {mod_marks : Nat → Int} {mod_whence : Nat → Int} {mod_by : Nat → Int} {mod_leads : Nat → Int} {mod_comes : Nat → Int} {mod_costs : Nat → Int} {mod_next : Nat → Int} {mod_found : Nat → Int} (C : JC p s m args meth c cX6_row 3 "MarkingHallModel" D (mT gm) A) (x1 : Int) (x2 : Int) (res : Int × (Int) × (Nat → Int)) (h : F_X6_row x1 x2 mod_places mod_firings mod_weights mod_thrown mod_found = some res) (RET : ∀ (pc : Nat) (lv : List (Nat × Value)), decode cX6_row pc = .ok (.ireturn, 1) → J p l e ({ frames := 4, cells := 0, slots := 0, locals := 98 } : Room) s m args below meth c D A 3 Q 0 0 (mW b gm res.2.1 mod_places mod_firings mod_fired mod_logged mod_tokens mod_weights mod_logs mod_marks mod_whence mod_by mod_leads mod_comes mod_costs mod_next res.2.2) pc lv [.int (vI res.1)]) : J p l e ({ frames := 4, cells := 0, slots := 0, locals := 98 } : Room) s m args below meth c D A 3 Q 0 0 (mW b gm mod_thrown mod_places mod_firings mod_fired mod_logged mod_tokens mod_weights mod_logs mod_marks mod_whence mod_by mod_leads mod_comes mod_costs mod_next mod_found) 0 [(0, .ref (b 0)), (1, .int (vI x1)), (2, .int (vI x2))] [] := by
  have J29 : ∀ (l1 : Int) (l2 : Int) (s1 : Int) (mod_thrown : Int) (mod_found : Nat → Int), F_X6_row_b29 mod_places mod_firings mod_weights l1 l2 s1 mod_thrown mod_found = some res → J p l e ({ frames := 4, cells := 0, slots := 0, locals := 98 } : Room) s m args below meth c D A 3 Q 0 0 (mW b gm mod_thrown mod_places mod_firings mod_fired mod_logged mod_tokens mod_weights mod_logs mod_marks mod_whence mod_by mod_leads mod_comes mod_costs mod_next mod_found) 29 [(0, .ref (b 0)), (1, .int (vI l1)), (2, .int (vI l2))] [.int (vI s1), .ref (b 0)] := by
    intro l1 l2 s1 mod_thrown mod_found h
    unfold F_X6_row_b29 at h
    obtain ⟨r1, hr1, h⟩ := Ob_of h
    refine q_X6_58 C (wc := (mW b gm mod_thrown mod_places mod_firings mod_fired mod_logged mod_tokens mod_weights mod_logs mod_marks mod_whence mod_by mod_leads mod_comes mod_costs mod_next mod_found)) (wc' := (mW b gm r1.2 mod_places mod_firings mod_fired mod_logged mod_tokens mod_weights mod_logs mod_marks mod_whence mod_by mod_leads mod_comes mod_costs mod_next mod_found)) (c_X6_goesWell l D b gm mod_thrown mod_places mod_firings mod_fired mod_logged mod_tokens mod_weights mod_logs mod_marks mod_whence mod_by mod_leads mod_comes mod_costs mod_next mod_found s1 r1 hr1) ⟨(Nat.le_of_ble_eq_true rfl), (Nat.le_of_ble_eq_true rfl)⟩ rfl rfl 0 rfl rfl (ww _) (ww _) mW_ha C.2.2.2.2.2.2.1 (Nat.le_of_ble_eq_true rfl) rfl rfl (Nat.zero_le _) (Nat.zero_le _) dX6_row_29 ?_
    refine j_if_eq C h 53 (by decide) dX6_row_32 (fun c4 h => ?_) (fun c4 h => ?_)
    · refine j_iconst C dX6_row_53 ?_
      cases h
      exact RET _ _ dX6_row_54
    · refine j_aload_n C 0 rfl rfl dX6_row_35 ?_
      refine g_X6_41 C (v := .ref (b 11)) 0 rfl rfl dX6_row_36 ?_
      refine j_iload_n C 1 rfl rfl dX6_row_39 ?_
      refine j_iald C 11 10 rfl rfl (Nat.le_of_ble_eq_true rfl) h dX6_row_40 (fun v2 h => ?_)
      refine j_iconst C dX6_row_41 ?_
      refine j_aload_n C 0 rfl rfl dX6_row_42 ?_
      refine g_X6_48 C (v := .int (vI mod_places)) 0 rfl rfl dX6_row_43 ?_
      refine j_iload_n C 2 rfl rfl dX6_row_46 ?_
      obtain ⟨r3, hr3, h⟩ := Ob_of h
      refine q_X6_116 C (wc := (mW b gm r1.2 mod_places mod_firings mod_fired mod_logged mod_tokens mod_weights mod_logs mod_marks mod_whence mod_by mod_leads mod_comes mod_costs mod_next mod_found)) (wc' := (mW b gm r1.2 mod_places mod_firings mod_fired mod_logged mod_tokens mod_weights mod_logs mod_marks mod_whence mod_by mod_leads mod_comes mod_costs mod_next mod_found)) (c_X6_digit l D _ _ v2 4 mod_places l2 r3 hr3) ⟨(Nat.le_of_ble_eq_true rfl), (Nat.le_of_ble_eq_true rfl)⟩ rfl rfl rfl (ww _) (ww _) rfl C.2.2.2.2.2.2.1 (Nat.le_of_ble_eq_true rfl) rfl rfl (Nat.zero_le _) (Nat.zero_le _) dX6_row_47 ?_
      refine j_goto C 54 (by decide) dX6_row_50 ?_
      cases h
      exact RET _ _ dX6_row_54
  have J28 : ∀ (l1 : Int) (l2 : Int) (mod_thrown : Int) (mod_found : Nat → Int), F_X6_row_b28 mod_places mod_firings mod_weights l1 l2 mod_thrown mod_found = some res → J p l e ({ frames := 4, cells := 0, slots := 0, locals := 98 } : Room) s m args below meth c D A 3 Q 0 0 (mW b gm mod_thrown mod_places mod_firings mod_fired mod_logged mod_tokens mod_weights mod_logs mod_marks mod_whence mod_by mod_leads mod_comes mod_costs mod_next mod_found) 28 [(0, .ref (b 0)), (1, .int (vI l1)), (2, .int (vI l2))] [.ref (b 0)] := by
    intro l1 l2 mod_thrown mod_found h
    unfold F_X6_row_b28 at h
    refine j_iconst C dX6_row_28 ?_
    exact J29 l1 l2 1 mod_thrown mod_found h
  unfold F_X6_row at h
  refine j_aload_n C 0 rfl rfl dX6_row_0 ?_
  refine j_iload_n C 1 rfl rfl dX6_row_1 ?_
  refine j_iconst C dX6_row_2 ?_
  refine j_aload_n C 0 rfl rfl dX6_row_3 ?_
  refine j_iconst C dX6_row_4 ?_
  obtain ⟨r5, hr5, h⟩ := Ob_of h
  refine q_X6_132 C (wc := (mW b gm mod_thrown mod_places mod_firings mod_fired mod_logged mod_tokens mod_weights mod_logs mod_marks mod_whence mod_by mod_leads mod_comes mod_costs mod_next mod_found)) (wc' := (mW b gm mod_thrown mod_places mod_firings mod_fired mod_logged mod_tokens mod_weights mod_logs mod_marks mod_whence mod_by mod_leads mod_comes mod_costs mod_next r5.2)) (c_X6_findLeast l D b gm mod_thrown mod_places mod_firings mod_fired mod_logged mod_tokens mod_weights mod_logs mod_marks mod_whence mod_by mod_leads mod_comes mod_costs mod_next mod_found 1 r5 hr5) ⟨(Nat.le_of_ble_eq_true rfl), (Nat.le_of_ble_eq_true rfl)⟩ rfl rfl 0 rfl rfl (ww _) (ww _) mW_ha C.2.2.2.2.2.2.1 (Nat.le_of_ble_eq_true rfl) rfl rfl (Nat.zero_le _) (Nat.zero_le _) dX6_row_5 ?_
  refine j_iconst C dX6_row_8 ?_
  refine j_isub C dX6_row_9 ?_
  obtain ⟨r6, hr6, h⟩ := Ob_of h
  refine q_X6_51 C (wc := (mW b gm mod_thrown mod_places mod_firings mod_fired mod_logged mod_tokens mod_weights mod_logs mod_marks mod_whence mod_by mod_leads mod_comes mod_costs mod_next r5.2)) (wc' := (mW b gm mod_thrown mod_places mod_firings mod_fired mod_logged mod_tokens mod_weights mod_logs mod_marks mod_whence mod_by mod_leads mod_comes mod_costs mod_next r5.2)) (c_X6_in l D _ _ x1 0 (r5.1 - 1) r6 hr6) ⟨(Nat.le_of_ble_eq_true rfl), (Nat.le_of_ble_eq_true rfl)⟩ rfl rfl rfl (ww _) (ww _) rfl C.2.2.2.2.2.2.1 (Nat.le_of_ble_eq_true rfl) rfl rfl (Nat.zero_le _) (Nat.zero_le _) dX6_row_10 ?_
  refine j_if_eq C h 28 (by decide) dX6_row_13 (fun c9 h => ?_) (fun c9 h => ?_)
  · exact J28 x1 x2 mod_thrown r5.2 h
  · refine j_aload_n C 0 rfl rfl dX6_row_16 ?_
    refine j_iload_n C 2 rfl rfl dX6_row_17 ?_
    obtain ⟨r7, hr7, h⟩ := Ob_of h
    refine q_X6_65 C (wc := (mW b gm mod_thrown mod_places mod_firings mod_fired mod_logged mod_tokens mod_weights mod_logs mod_marks mod_whence mod_by mod_leads mod_comes mod_costs mod_next r5.2)) (wc' := (mW b gm mod_thrown mod_places mod_firings mod_fired mod_logged mod_tokens mod_weights mod_logs mod_marks mod_whence mod_by mod_leads mod_comes mod_costs mod_next r5.2)) (c_X6_isPlace l D b gm mod_thrown mod_places mod_firings mod_fired mod_logged mod_tokens mod_weights mod_logs mod_marks mod_whence mod_by mod_leads mod_comes mod_costs mod_next r5.2 x2 r7 hr7) ⟨(Nat.le_of_ble_eq_true rfl), (Nat.le_of_ble_eq_true rfl)⟩ rfl rfl 0 rfl rfl (ww _) (ww _) rfl C.2.2.2.2.2.2.1 (Nat.le_of_ble_eq_true rfl) rfl rfl (Nat.zero_le _) (Nat.zero_le _) dX6_row_18 ?_
    refine j_if_eq C h 28 (by decide) dX6_row_21 (fun c8 h => ?_) (fun c8 h => ?_)
    · exact J28 x1 x2 mod_thrown r5.2 h
    · refine j_iconst C dX6_row_24 ?_
      refine j_goto C 29 (by decide) dX6_row_25 ?_
      exact J29 x1 x2 0 mod_thrown r5.2 h
theorem c_X6_row (l : Launch) (D : va_G) (b : Nat → Nat) (gm : Nat → ClassId) (mod_thrown : Int) (mod_places : Int) (mod_firings : Int) (mod_fired : Int) (mod_logged : Int) (mod_tokens : Nat → Int) (mod_weights : Nat → Int) (mod_logs : Nat → Int) (mod_marks : Nat → Int) (mod_whence : Nat → Int) (mod_by : Nat → Int) (mod_leads : Nat → Int) (mod_comes : Nat → Int) (mod_costs : Nat → Int) (mod_next : Nat → Int) (mod_found : Nat → Int) (x1 : Int) (x2 : Int) (res : Int × (Int) × (Nat → Int)) (h : F_X6_row x1 x2 mod_places mod_firings mod_weights mod_thrown mod_found = some res) : Kt l yX6_row cX6_row 3 (some .int) ({ frames := 4, cells := 0, slots := 0, locals := 98 } : Room) D (mT gm) [.ref (b 0), .int (vI x1), .int (vI x2)] (mW b gm mod_thrown mod_places mod_firings mod_fired mod_logged mod_tokens mod_weights mod_logs mod_marks mod_whence mod_by mod_leads mod_comes mod_costs mod_next mod_found) (mW b gm res.2.1 mod_places mod_firings mod_fired mod_logged mod_tokens mod_weights mod_logs mod_marks mod_whence mod_by mod_leads mod_comes mod_costs mod_next res.2.2) (some (.int (vI res.1))) :=
  kt_i (ty := .int) rfl rfl (by decide +kernel) (Nat.le_of_ble_eq_true rfl) (fun C RET => k_X6_row C x1 x2 res h RET)
set_option maxRecDepth 100000 in
set_option maxHeartbeats 4000000 in
theorem k_X6_sumBy {b : Nat → Nat} {gm : Nat → ClassId} {mod_thrown : Int} {mod_places : Int} {mod_firings : Int} {mod_fired : Int} {mod_logged : Int} {mod_tokens : Nat → Int} {mod_weights : Nat → Int} {mod_logs : Nat → Int} {mod_marks : Nat → Int} {mod_whence : Nat → Int} {mod_by : Nat → Int} {mod_leads : Nat → Int} {mod_comes : Nat → Int} {mod_costs : Nat → Int} {mod_next : Nat → Int} {mod_found : Nat → Int} (C : JC p s m args meth c cX6_sumBy 5 "MarkingHallModel" D (mT gm) A) (x1 : Int) (x2 : Int) (res : Int) (h : F_X6_sumBy x1 x2 mod_places mod_marks = some res) (RET : ∀ (pc : Nat) (lv : List (Nat × Value)), decode cX6_sumBy pc = .ok (.ireturn, 1) → J p l e ({ frames := 1, cells := 0, slots := 0, locals := 25 } : Room) s m args below meth c D A 5 Q 0 0 (mW b gm mod_thrown mod_places mod_firings mod_fired mod_logged mod_tokens mod_weights mod_logs mod_marks mod_whence mod_by mod_leads mod_comes mod_costs mod_next mod_found) pc lv [.int (vI res)]) : J p l e ({ frames := 1, cells := 0, slots := 0, locals := 25 } : Room) s m args below meth c D A 5 Q 0 0 (mW b gm mod_thrown mod_places mod_firings mod_fired mod_logged mod_tokens mod_weights mod_logs mod_marks mod_whence mod_by mod_leads mod_comes mod_costs mod_next mod_found) 0 [(0, .ref (b 0)), (1, .int (vI x1)), (2, .int (vI x2))] [] := by
  have J5 : ∀ (n : Nat) (l1 : Int) (l2 : Int) (l3 : Int) (l4 : Int), F_X6_sumBy_b5 mod_places mod_marks n l1 l2 l3 l4 = some res → J p l e ({ frames := 1, cells := 0, slots := 0, locals := 25 } : Room) s m args below meth c D A 5 Q 0 0 (mW b gm mod_thrown mod_places mod_firings mod_fired mod_logged mod_tokens mod_weights mod_logs mod_marks mod_whence mod_by mod_leads mod_comes mod_costs mod_next mod_found) 5 [(0, .ref (b 0)), (1, .int (vI l1)), (2, .int (vI l2)), (3, .int (vI l3)), (4, .int (vI l4))] [] := by
    intro n
    induction n with
    | zero => intro l1 l2 l3 l4 h; exact no_h h
    | succ n ih5 =>
      intro l1 l2 l3 l4 h
      replace h : F_X6_sumBy_b5_body mod_places mod_marks (F_X6_sumBy_b5 mod_places mod_marks n) l1 l2 l3 l4 = some res := h
      generalize F_X6_sumBy_b5 mod_places mod_marks n = ag5 at ih5 h
      unfold F_X6_sumBy_b5_body at h
      refine j_iload C 4 rfl dX6_sumBy_5 ?_
      refine j_aload_n C 0 rfl rfl dX6_sumBy_7 ?_
      refine g_X6_48 C (v := .int (vI mod_places)) 0 rfl rfl dX6_sumBy_8 ?_
      refine j_icmp_ge C h 47 (by decide) dX6_sumBy_11 (fun c6 h => ?_) (fun c6 h => ?_)
      · refine j_iload_n C 3 rfl rfl dX6_sumBy_47 ?_
        cases h
        exact RET _ _ dX6_sumBy_48
      · refine j_iload_n C 3 rfl rfl dX6_sumBy_14 ?_
        refine j_iload_n C 1 rfl rfl dX6_sumBy_15 ?_
        refine j_iconst C dX6_sumBy_16 ?_
        refine j_aload_n C 0 rfl rfl dX6_sumBy_17 ?_
        refine g_X6_48 C (v := .int (vI mod_places)) 0 rfl rfl dX6_sumBy_18 ?_
        refine j_iload C 4 rfl dX6_sumBy_21 ?_
        obtain ⟨r1, hr1, h⟩ := Ob_of h
        refine q_X6_116 C (wc := (mW b gm mod_thrown mod_places mod_firings mod_fired mod_logged mod_tokens mod_weights mod_logs mod_marks mod_whence mod_by mod_leads mod_comes mod_costs mod_next mod_found)) (wc' := (mW b gm mod_thrown mod_places mod_firings mod_fired mod_logged mod_tokens mod_weights mod_logs mod_marks mod_whence mod_by mod_leads mod_comes mod_costs mod_next mod_found)) (c_X6_digit l D _ _ l1 4 mod_places l4 r1 hr1) ⟨(Nat.le_of_ble_eq_true rfl), (Nat.le_of_ble_eq_true rfl)⟩ rfl rfl rfl (ww _) (ww _) rfl C.2.2.2.2.2.2.1 (Nat.le_of_ble_eq_true rfl) rfl rfl (Nat.zero_le _) (Nat.zero_le _) dX6_sumBy_23 ?_
        refine j_aload_n C 0 rfl rfl dX6_sumBy_26 ?_
        refine g_X6_19 C (v := .ref (b 4)) 0 rfl rfl dX6_sumBy_27 ?_
        refine j_bipush C (by decide) dX6_sumBy_30 ?_
        refine j_iload_n C 2 rfl rfl dX6_sumBy_32 ?_
        refine j_imul C dX6_sumBy_33 ?_
        refine j_iload C 4 rfl dX6_sumBy_34 ?_
        refine j_iadd C dX6_sumBy_36 ?_
        refine j_nm h (fun v2 h => ?_)
        refine j_iald C 4 3 rfl rfl (Nat.le_of_ble_eq_true rfl) h dX6_sumBy_37 (fun v3 h => ?_)
        refine j_imul C dX6_sumBy_38 ?_
        refine j_iadd C dX6_sumBy_39 ?_
        refine j_nm h (fun v4 h => ?_)
        refine j_istore_n C [(3, .int (vI v4)), (0, .ref (b 0)), (1, .int (vI l1)), (2, .int (vI l2)), (4, .int (vI l4))] rfl rfl (by decide) dX6_sumBy_40 ?_
        refine j_iinc C 4 rfl (fun v => [(4, .int (vI v)), (3, .int (vI v4)), (0, .ref (b 0)), (1, .int (vI l1)), (2, .int (vI l2))]) (fun _ => rfl) (by decide) h dX6_sumBy_41 (fun v5 h => ?_)
        refine j_goto C 5 (by decide) dX6_sumBy_44 ?_
        refine j_lv [2, 3, 4, 1, 0] rfl ?_
        exact ih5 l1 l2 v4 v5 h
  unfold F_X6_sumBy at h
  refine j_iconst C dX6_sumBy_0 ?_
  refine j_istore_n C [(3, .int (vI 0)), (0, .ref (b 0)), (1, .int (vI x1)), (2, .int (vI x2))] rfl rfl (by decide) dX6_sumBy_1 ?_
  refine j_iconst C dX6_sumBy_2 ?_
  refine j_istore C [(4, .int (vI 0)), (3, .int (vI 0)), (0, .ref (b 0)), (1, .int (vI x1)), (2, .int (vI x2))] rfl (by decide) dX6_sumBy_3 ?_
  refine j_lv [2, 3, 4, 1, 0] rfl ?_
  exact J5 NN x1 x2 0 0 h
theorem c_X6_sumBy (l : Launch) (D : va_G) (b : Nat → Nat) (gm : Nat → ClassId) (mod_thrown : Int) (mod_places : Int) (mod_firings : Int) (mod_fired : Int) (mod_logged : Int) (mod_tokens : Nat → Int) (mod_weights : Nat → Int) (mod_logs : Nat → Int) (mod_marks : Nat → Int) (mod_whence : Nat → Int) (mod_by : Nat → Int) (mod_leads : Nat → Int) (mod_comes : Nat → Int) (mod_costs : Nat → Int) (mod_next : Nat → Int) (mod_found : Nat → Int) (x1 : Int) (x2 : Int) (res : Int) (h : F_X6_sumBy x1 x2 mod_places mod_marks = some res) : Kt l yX6_sumBy cX6_sumBy 5 (some .int) ({ frames := 1, cells := 0, slots := 0, locals := 25 } : Room) D (mT gm) [.ref (b 0), .int (vI x1), .int (vI x2)] (mW b gm mod_thrown mod_places mod_firings mod_fired mod_logged mod_tokens mod_weights mod_logs mod_marks mod_whence mod_by mod_leads mod_comes mod_costs mod_next mod_found) (mW b gm mod_thrown mod_places mod_firings mod_fired mod_logged mod_tokens mod_weights mod_logs mod_marks mod_whence mod_by mod_leads mod_comes mod_costs mod_next mod_found) (some (.int (vI res))) :=
  kt_i (ty := .int) rfl rfl (by decide +kernel) (Nat.le_of_ble_eq_true rfl) (fun C RET => k_X6_sumBy C x1 x2 res h RET)
set_option maxRecDepth 100000 in
set_option maxHeartbeats 4000000 in
theorem k_X6_boundOf {b : Nat → Nat} {gm : Nat → ClassId} {mod_thrown : Int} {mod_places : Int} {mod_firings : Int} {mod_fired : Int} {mod_logged : Int} {mod_tokens : Nat → Int} {mod_weights : Nat → Int} {mod_logs : Nat → Int} {mod_marks : Nat → Int} {mod_whence : Nat → Int} {mod_by : Nat → Int} {mod_leads : Nat → Int} {mod_comes : Nat → Int} {mod_costs : Nat → Int} {mod_next : Nat → Int} {mod_found : Nat → Int} (C : JC p s m args meth c cX6_boundOf 7 "MarkingHallModel" D (mT gm) A) (x1 : Int) (x2 : Int) (res : Int × (Nat → Int)) (h : F_X6_boundOf x1 x2 mod_places mod_tokens mod_found mod_marks = some res) (RET : ∀ (pc : Nat) (lv : List (Nat × Value)), decode cX6_boundOf pc = .ok (.ireturn, 1) → J p l e ({ frames := 2, cells := 0, slots := 0, locals := 49 } : Room) s m args below meth c D A 7 Q 0 0 (mW b gm mod_thrown mod_places mod_firings mod_fired mod_logged mod_tokens mod_weights mod_logs res.2 mod_whence mod_by mod_leads mod_comes mod_costs mod_next mod_found) pc lv [.int (vI res.1)]) : J p l e ({ frames := 2, cells := 0, slots := 0, locals := 49 } : Room) s m args below meth c D A 7 Q 0 0 (mW b gm mod_thrown mod_places mod_firings mod_fired mod_logged mod_tokens mod_weights mod_logs mod_marks mod_whence mod_by mod_leads mod_comes mod_costs mod_next mod_found) 0 [(0, .ref (b 0)), (1, .int (vI x1)), (2, .int (vI x2))] [] := by
  have J9 : ∀ (n : Nat) (l1 : Int) (l2 : Int) (l3 : Int) (l4 : Int) (mod_marks : Nat → Int), F_X6_boundOf_b9 mod_places mod_tokens mod_found n l1 l2 l3 l4 mod_marks = some res → J p l e ({ frames := 2, cells := 0, slots := 0, locals := 49 } : Room) s m args below meth c D A 7 Q 0 0 (mW b gm mod_thrown mod_places mod_firings mod_fired mod_logged mod_tokens mod_weights mod_logs mod_marks mod_whence mod_by mod_leads mod_comes mod_costs mod_next mod_found) 9 [(0, .ref (b 0)), (1, .int (vI l1)), (2, .int (vI l2)), (3, .int (vI l3)), (4, .int (vI l4))] [] := by
    intro n
    induction n with
    | zero => intro l1 l2 l3 l4 mod_marks h; exact no_h h
    | succ n ih9 =>
      intro l1 l2 l3 l4 mod_marks h
      replace h : F_X6_boundOf_b9_body mod_places mod_tokens mod_found (F_X6_boundOf_b9 mod_places mod_tokens mod_found n) l1 l2 l3 l4 mod_marks = some res := h
      generalize F_X6_boundOf_b9 mod_places mod_tokens mod_found n = ag9 at ih9 h
      have J81 : ∀ (l1 : Int) (l2 : Int) (l4 : Int) (s0 : Int) (mod_marks : Nat → Int), F_X6_boundOf_b81 mod_places mod_tokens mod_found ag9 l1 l2 l4 s0 mod_marks = some res → J p l e ({ frames := 2, cells := 0, slots := 0, locals := 49 } : Room) s m args below meth c D A 7 Q 0 0 (mW b gm mod_thrown mod_places mod_firings mod_fired mod_logged mod_tokens mod_weights mod_logs mod_marks mod_whence mod_by mod_leads mod_comes mod_costs mod_next mod_found) 81 [(0, .ref (b 0)), (1, .int (vI l1)), (2, .int (vI l2)), (4, .int (vI l4))] [.int (vI s0)] := by
        intro l1 l2 l4 s0 mod_marks h
        unfold F_X6_boundOf_b81 at h
        refine j_istore_n C [(3, .int (vI s0)), (0, .ref (b 0)), (1, .int (vI l1)), (2, .int (vI l2)), (4, .int (vI l4))] rfl rfl (by decide) dX6_boundOf_81 ?_
        refine j_iinc C 4 rfl (fun v => [(4, .int (vI v)), (3, .int (vI s0)), (0, .ref (b 0)), (1, .int (vI l1)), (2, .int (vI l2))]) (fun _ => rfl) (by decide) h dX6_boundOf_82 (fun v1 h => ?_)
        refine j_goto C 9 (by decide) dX6_boundOf_85 ?_
        refine j_lv [2, 3, 4, 1, 0] rfl ?_
        exact ih9 l1 l2 s0 v1 mod_marks h
      have J80 : ∀ (l1 : Int) (l2 : Int) (l3 : Int) (l4 : Int) (mod_marks : Nat → Int), F_X6_boundOf_b80 mod_places mod_tokens mod_found ag9 l1 l2 l3 l4 mod_marks = some res → J p l e ({ frames := 2, cells := 0, slots := 0, locals := 49 } : Room) s m args below meth c D A 7 Q 0 0 (mW b gm mod_thrown mod_places mod_firings mod_fired mod_logged mod_tokens mod_weights mod_logs mod_marks mod_whence mod_by mod_leads mod_comes mod_costs mod_next mod_found) 80 [(0, .ref (b 0)), (1, .int (vI l1)), (2, .int (vI l2)), (3, .int (vI l3)), (4, .int (vI l4))] [] := by
        intro l1 l2 l3 l4 mod_marks h
        unfold F_X6_boundOf_b80 at h
        refine j_iload_n C 3 rfl rfl dX6_boundOf_80 ?_
        refine j_lv [0, 1, 2, 4] rfl ?_
        exact J81 l1 l2 l4 l3 mod_marks h
      have J75 : ∀ (l1 : Int) (l2 : Int) (l4 : Int) (l6 : Int) (mod_marks : Nat → Int), F_X6_boundOf_b75 mod_places mod_tokens mod_found ag9 l1 l2 l4 l6 mod_marks = some res → J p l e ({ frames := 2, cells := 0, slots := 0, locals := 49 } : Room) s m args below meth c D A 7 Q 0 0 (mW b gm mod_thrown mod_places mod_firings mod_fired mod_logged mod_tokens mod_weights mod_logs mod_marks mod_whence mod_by mod_leads mod_comes mod_costs mod_next mod_found) 75 [(0, .ref (b 0)), (1, .int (vI l1)), (2, .int (vI l2)), (4, .int (vI l4)), (6, .int (vI l6))] [] := by
        intro l1 l2 l4 l6 mod_marks h
        unfold F_X6_boundOf_b75 at h
        refine j_iload C 4 rfl dX6_boundOf_75 ?_
        refine j_goto C 81 (by decide) dX6_boundOf_77 ?_
        refine j_lv [0, 1, 2, 3] rfl ?_
        exact J81 l1 l2 l4 l6 mod_marks h
      have J57 : ∀ (l1 : Int) (l2 : Int) (l3 : Int) (l4 : Int) (l5 : Int) (s0 : Int) (mod_marks : Nat → Int), F_X6_boundOf_b57 mod_places mod_tokens mod_found ag9 l1 l2 l3 l4 l5 s0 mod_marks = some res → J p l e ({ frames := 2, cells := 0, slots := 0, locals := 49 } : Room) s m args below meth c D A 7 Q 0 0 (mW b gm mod_thrown mod_places mod_firings mod_fired mod_logged mod_tokens mod_weights mod_logs mod_marks mod_whence mod_by mod_leads mod_comes mod_costs mod_next mod_found) 57 [(0, .ref (b 0)), (1, .int (vI l1)), (2, .int (vI l2)), (3, .int (vI l3)), (4, .int (vI l4)), (5, .int (vI l5))] [.int (vI s0)] := by
        intro l1 l2 l3 l4 l5 s0 mod_marks h
        unfold F_X6_boundOf_b57 at h
        refine j_istore C [(6, .int (vI s0)), (0, .ref (b 0)), (1, .int (vI l1)), (2, .int (vI l2)), (3, .int (vI l3)), (4, .int (vI l4)), (5, .int (vI l5))] rfl (by decide) dX6_boundOf_57 ?_
        refine j_iload C 6 rfl dX6_boundOf_59 ?_
        refine j_if_le C h 80 (by decide) dX6_boundOf_61 (fun c4 h => ?_) (fun c4 h => ?_)
        · refine j_lv [1, 2, 3, 4, 5] rfl ?_
          exact J80 l1 l2 l3 l4 mod_marks h
        · refine j_iload_n C 4 rfl rfl dX6_boundOf_64 ?_
          refine j_iconst C dX6_boundOf_65 ?_
          refine j_icmp_eq C h 75 (by decide) dX6_boundOf_66 (fun c3 h => ?_) (fun c3 h => ?_)
          · refine j_lv [1, 2, 3, 5, 0] rfl ?_
            exact J75 l1 l2 l4 s0 mod_marks h
          · refine j_iload C 0 rfl dX6_boundOf_69 ?_
            refine j_iload_n C 4 rfl rfl dX6_boundOf_71 ?_
            refine j_icmp_ge C h 80 (by decide) dX6_boundOf_72 (fun c2 h => ?_) (fun c2 h => ?_)
            · refine j_lv [1, 2, 3, 4, 5] rfl ?_
              exact J80 l1 l2 l3 l4 mod_marks h
            · refine j_lv [1, 2, 3, 5, 0] rfl ?_
              exact J75 l1 l2 l4 s0 mod_marks h
      unfold F_X6_boundOf_b9_body at h
      refine j_iload C 4 rfl dX6_boundOf_9 ?_
      refine j_iload_n C 2 rfl rfl dX6_boundOf_11 ?_
      refine j_icmp_ge C h 88 (by decide) dX6_boundOf_12 (fun c10 h => ?_) (fun c10 h => ?_)
      · refine j_iload_n C 3 rfl rfl dX6_boundOf_88 ?_
        cases h
        exact RET _ _ dX6_boundOf_89
      · refine j_aload_n C 0 rfl rfl dX6_boundOf_15 ?_
        refine g_X6_41 C (v := .ref (b 11)) 0 rfl rfl dX6_boundOf_16 ?_
        refine j_iload C 4 rfl dX6_boundOf_19 ?_
        refine j_iald C 11 10 rfl rfl (Nat.le_of_ble_eq_true rfl) h dX6_boundOf_21 (fun v5 h => ?_)
        refine j_iconst C dX6_boundOf_22 ?_
        refine j_aload_n C 0 rfl rfl dX6_boundOf_23 ?_
        refine g_X6_48 C (v := .int (vI mod_places)) 0 rfl rfl dX6_boundOf_24 ?_
        refine j_iload_n C 1 rfl rfl dX6_boundOf_27 ?_
        obtain ⟨r6, hr6, h⟩ := Ob_of h
        refine q_X6_116 C (wc := (mW b gm mod_thrown mod_places mod_firings mod_fired mod_logged mod_tokens mod_weights mod_logs mod_marks mod_whence mod_by mod_leads mod_comes mod_costs mod_next mod_found)) (wc' := (mW b gm mod_thrown mod_places mod_firings mod_fired mod_logged mod_tokens mod_weights mod_logs mod_marks mod_whence mod_by mod_leads mod_comes mod_costs mod_next mod_found)) (c_X6_digit l D _ _ v5 4 mod_places l1 r6 hr6) ⟨(Nat.le_of_ble_eq_true rfl), (Nat.le_of_ble_eq_true rfl)⟩ rfl rfl rfl (ww _) (ww _) rfl C.2.2.2.2.2.2.1 (Nat.le_of_ble_eq_true rfl) rfl rfl (Nat.zero_le _) (Nat.zero_le _) dX6_boundOf_28 ?_
        refine j_istore C [(5, .int (vI r6)), (0, .ref (b 0)), (1, .int (vI l1)), (2, .int (vI l2)), (3, .int (vI l3)), (4, .int (vI l4))] rfl (by decide) dX6_boundOf_31 ?_
        refine j_iload C 0 rfl dX6_boundOf_33 ?_
        refine j_if_ne C h 42 (by decide) dX6_boundOf_35 (fun c9 h => ?_) (fun c9 h => ?_)
        · refine j_aload_n C 1 rfl rfl dX6_boundOf_42 ?_
          refine j_aload_n C 1 rfl rfl dX6_boundOf_43 ?_
          refine g_X6_41 C (v := .ref (b 11)) 0 rfl rfl dX6_boundOf_44 ?_
          refine j_iload C 5 rfl dX6_boundOf_47 ?_
          refine j_iald C 11 10 rfl rfl (Nat.le_of_ble_eq_true rfl) h dX6_boundOf_49 (fun v7 h => ?_)
          refine j_iconst C dX6_boundOf_50 ?_
          obtain ⟨r8, hr8, h⟩ := Ob_of h
          refine q_X6_136 C (wc := (mW b gm mod_thrown mod_places mod_firings mod_fired mod_logged mod_tokens mod_weights mod_logs mod_marks mod_whence mod_by mod_leads mod_comes mod_costs mod_next mod_found)) (wc' := (mW b gm mod_thrown mod_places mod_firings mod_fired mod_logged mod_tokens mod_weights mod_logs mod_marks mod_whence mod_by mod_leads mod_comes mod_costs mod_next mod_found)) (c_X6_sumBy l D b gm mod_thrown mod_places mod_firings mod_fired mod_logged mod_tokens mod_weights mod_logs mod_marks mod_whence mod_by mod_leads mod_comes mod_costs mod_next mod_found v7 0 r8 hr8) ⟨(Nat.le_of_ble_eq_true rfl), (Nat.le_of_ble_eq_true rfl)⟩ rfl rfl 0 rfl rfl (ww _) (ww _) rfl C.2.2.2.2.2.2.1 (Nat.le_of_ble_eq_true rfl) rfl rfl (Nat.zero_le _) (Nat.zero_le _) dX6_boundOf_51 ?_
          refine j_iload C 0 rfl dX6_boundOf_54 ?_
          refine j_idiv C h dX6_boundOf_56 (fun h => ?_)
          refine j_lv [1, 2, 3, 4, 5, 0] rfl ?_
          exact J57 l1 l2 l3 l4 r6 (iDiv r8 r6) mod_marks h
        · refine j_iconst C dX6_boundOf_38 ?_
          refine j_goto C 57 (by decide) dX6_boundOf_39 ?_
          refine j_lv [1, 2, 3, 4, 5, 0] rfl ?_
          exact J57 l1 l2 l3 l4 r6 (-1) mod_marks h
  unfold F_X6_boundOf at h
  refine j_aload_n C 0 rfl rfl dX6_boundOf_0 ?_
  obtain ⟨r11, hr11, h⟩ := Ob_of h
  refine q_X6_75 C (wc := (mW b gm mod_thrown mod_places mod_firings mod_fired mod_logged mod_tokens mod_weights mod_logs mod_marks mod_whence mod_by mod_leads mod_comes mod_costs mod_next mod_found)) (wc' := (mW b gm mod_thrown mod_places mod_firings mod_fired mod_logged mod_tokens mod_weights mod_logs r11 mod_whence mod_by mod_leads mod_comes mod_costs mod_next mod_found)) (c_X6_layNow l D b gm mod_thrown mod_places mod_firings mod_fired mod_logged mod_tokens mod_weights mod_logs mod_marks mod_whence mod_by mod_leads mod_comes mod_costs mod_next mod_found r11 hr11) ⟨(Nat.le_of_ble_eq_true rfl), (Nat.le_of_ble_eq_true rfl)⟩ rfl rfl 0 rfl rfl (ww _) (ww _) mW_ha C.2.2.2.2.2.2.1 (Nat.le_of_ble_eq_true rfl) rfl rfl (Nat.zero_le _) (Nat.zero_le _) dX6_boundOf_1 ?_
  refine j_iconst C dX6_boundOf_4 ?_
  refine j_istore_n C [(3, .int (vI (-1))), (0, .ref (b 0)), (1, .int (vI x1)), (2, .int (vI x2))] rfl rfl (by decide) dX6_boundOf_5 ?_
  refine j_iconst C dX6_boundOf_6 ?_
  refine j_istore C [(4, .int (vI 0)), (3, .int (vI (-1))), (0, .ref (b 0)), (1, .int (vI x1)), (2, .int (vI x2))] rfl (by decide) dX6_boundOf_7 ?_
  refine j_lv [2, 3, 4, 1, 0] rfl ?_
  exact J9 NN x1 x2 (-1) 0 r11 h
theorem c_X6_boundOf (l : Launch) (D : va_G) (b : Nat → Nat) (gm : Nat → ClassId) (mod_thrown : Int) (mod_places : Int) (mod_firings : Int) (mod_fired : Int) (mod_logged : Int) (mod_tokens : Nat → Int) (mod_weights : Nat → Int) (mod_logs : Nat → Int) (mod_marks : Nat → Int) (mod_whence : Nat → Int) (mod_by : Nat → Int) (mod_leads : Nat → Int) (mod_comes : Nat → Int) (mod_costs : Nat → Int) (mod_next : Nat → Int) (mod_found : Nat → Int) (x1 : Int) (x2 : Int) (res : Int × (Nat → Int)) (h : F_X6_boundOf x1 x2 mod_places mod_tokens mod_found mod_marks = some res) : Kt l yX6_boundOf cX6_boundOf 7 (some .int) ({ frames := 2, cells := 0, slots := 0, locals := 49 } : Room) D (mT gm) [.ref (b 0), .int (vI x1), .int (vI x2)] (mW b gm mod_thrown mod_places mod_firings mod_fired mod_logged mod_tokens mod_weights mod_logs mod_marks mod_whence mod_by mod_leads mod_comes mod_costs mod_next mod_found) (mW b gm mod_thrown mod_places mod_firings mod_fired mod_logged mod_tokens mod_weights mod_logs res.2 mod_whence mod_by mod_leads mod_comes mod_costs mod_next mod_found) (some (.int (vI res.1))) :=
  kt_i (ty := .int) rfl rfl (by decide +kernel) (Nat.le_of_ble_eq_true rfl) (fun C RET => k_X6_boundOf C x1 x2 res h RET)
set_option maxRecDepth 100000 in
set_option maxHeartbeats 4000000 in
theorem k_X6_mostByRows {b : Nat → Nat} {gm : Nat → ClassId} {mod_thrown : Int} {mod_places : Int} {mod_firings : Int} {mod_fired : Int} {mod_logged : Int} {mod_tokens : Nat → Int} {mod_weights : Nat → Int} {mod_logs : Nat → Int} {mod_marks : Nat → Int} {mod_whence : Nat → Int} {mod_by : Nat → Int} {mod_leads : Nat → Int} {mod_comes : Nat → Int} {mod_costs : Nat → Int} {mod_next : Nat → Int} {mod_found : Nat → Int} (C : JC p s m args meth c cX6_mostByRows 2 "MarkingHallModel" D (mT gm) A) (x1 : Int) (res : Int × (Int) × (Nat → Int) × (Nat → Int)) (h : F_X6_mostByRows x1 mod_places mod_firings mod_tokens mod_weights mod_thrown mod_marks mod_found = some res) (RET : ∀ (pc : Nat) (lv : List (Nat × Value)), decode cX6_mostByRows pc = .ok (.ireturn, 1) → J p l e ({ frames := 4, cells := 0, slots := 0, locals := 98 } : Room) s m args below meth c D A 2 Q 0 0 (mW b gm res.2.1 mod_places mod_firings mod_fired mod_logged mod_tokens mod_weights mod_logs res.2.2.1 mod_whence mod_by mod_leads mod_comes mod_costs mod_next res.2.2.2) pc lv [.int (vI res.1)]) : J p l e ({ frames := 4, cells := 0, slots := 0, locals := 98 } : Room) s m args below meth c D A 2 Q 0 0 (mW b gm mod_thrown mod_places mod_firings mod_fired mod_logged mod_tokens mod_weights mod_logs mod_marks mod_whence mod_by mod_leads mod_comes mod_costs mod_next mod_found) 0 [(0, .ref (b 0)), (1, .int (vI x1))] [] := by
  have J14 : ∀ (l1 : Int) (s1 : Int) (mod_thrown : Int) (mod_marks : Nat → Int) (mod_found : Nat → Int), F_X6_mostByRows_b14 mod_places mod_firings mod_tokens mod_weights l1 s1 mod_thrown mod_marks mod_found = some res → J p l e ({ frames := 4, cells := 0, slots := 0, locals := 98 } : Room) s m args below meth c D A 2 Q 0 0 (mW b gm mod_thrown mod_places mod_firings mod_fired mod_logged mod_tokens mod_weights mod_logs mod_marks mod_whence mod_by mod_leads mod_comes mod_costs mod_next mod_found) 14 [(0, .ref (b 0)), (1, .int (vI l1))] [.int (vI s1), .ref (b 0)] := by
    intro l1 s1 mod_thrown mod_marks mod_found h
    unfold F_X6_mostByRows_b14 at h
    obtain ⟨r1, hr1, h⟩ := Ob_of h
    refine q_X6_58 C (wc := (mW b gm mod_thrown mod_places mod_firings mod_fired mod_logged mod_tokens mod_weights mod_logs mod_marks mod_whence mod_by mod_leads mod_comes mod_costs mod_next mod_found)) (wc' := (mW b gm r1.2 mod_places mod_firings mod_fired mod_logged mod_tokens mod_weights mod_logs mod_marks mod_whence mod_by mod_leads mod_comes mod_costs mod_next mod_found)) (c_X6_goesWell l D b gm mod_thrown mod_places mod_firings mod_fired mod_logged mod_tokens mod_weights mod_logs mod_marks mod_whence mod_by mod_leads mod_comes mod_costs mod_next mod_found s1 r1 hr1) ⟨(Nat.le_of_ble_eq_true rfl), (Nat.le_of_ble_eq_true rfl)⟩ rfl rfl 0 rfl rfl (ww _) (ww _) mW_ha C.2.2.2.2.2.2.1 (Nat.le_of_ble_eq_true rfl) rfl rfl (Nat.zero_le _) (Nat.zero_le _) dX6_mostByRows_14 ?_
    refine j_if_eq C h 33 (by decide) dX6_mostByRows_17 (fun c4 h => ?_) (fun c4 h => ?_)
    · refine j_iconst C dX6_mostByRows_33 ?_
      cases h
      exact RET _ _ dX6_mostByRows_34
    · refine j_aload_n C 0 rfl rfl dX6_mostByRows_20 ?_
      refine j_iload_n C 1 rfl rfl dX6_mostByRows_21 ?_
      refine j_aload_n C 0 rfl rfl dX6_mostByRows_22 ?_
      refine j_iconst C dX6_mostByRows_23 ?_
      obtain ⟨r2, hr2, h⟩ := Ob_of h
      refine q_X6_132 C (wc := (mW b gm r1.2 mod_places mod_firings mod_fired mod_logged mod_tokens mod_weights mod_logs mod_marks mod_whence mod_by mod_leads mod_comes mod_costs mod_next mod_found)) (wc' := (mW b gm r1.2 mod_places mod_firings mod_fired mod_logged mod_tokens mod_weights mod_logs mod_marks mod_whence mod_by mod_leads mod_comes mod_costs mod_next r2.2)) (c_X6_findLeast l D b gm r1.2 mod_places mod_firings mod_fired mod_logged mod_tokens mod_weights mod_logs mod_marks mod_whence mod_by mod_leads mod_comes mod_costs mod_next mod_found 1 r2 hr2) ⟨(Nat.le_of_ble_eq_true rfl), (Nat.le_of_ble_eq_true rfl)⟩ rfl rfl 0 rfl rfl (ww _) (ww _) mW_ha C.2.2.2.2.2.2.1 (Nat.le_of_ble_eq_true rfl) rfl rfl (Nat.zero_le _) (Nat.zero_le _) dX6_mostByRows_24 ?_
      obtain ⟨r3, hr3, h⟩ := Ob_of h
      refine q_X6_139 C (wc := (mW b gm r1.2 mod_places mod_firings mod_fired mod_logged mod_tokens mod_weights mod_logs mod_marks mod_whence mod_by mod_leads mod_comes mod_costs mod_next r2.2)) (wc' := (mW b gm r1.2 mod_places mod_firings mod_fired mod_logged mod_tokens mod_weights mod_logs r3.2 mod_whence mod_by mod_leads mod_comes mod_costs mod_next r2.2)) (c_X6_boundOf l D b gm r1.2 mod_places mod_firings mod_fired mod_logged mod_tokens mod_weights mod_logs mod_marks mod_whence mod_by mod_leads mod_comes mod_costs mod_next r2.2 l1 r2.1 r3 hr3) ⟨(Nat.le_of_ble_eq_true rfl), (Nat.le_of_ble_eq_true rfl)⟩ rfl rfl 0 rfl rfl (ww _) (ww _) mW_ha C.2.2.2.2.2.2.1 (Nat.le_of_ble_eq_true rfl) rfl rfl (Nat.zero_le _) (Nat.zero_le _) dX6_mostByRows_27 ?_
      refine j_goto C 34 (by decide) dX6_mostByRows_30 ?_
      cases h
      exact RET _ _ dX6_mostByRows_34
  unfold F_X6_mostByRows at h
  refine j_aload_n C 0 rfl rfl dX6_mostByRows_0 ?_
  refine j_aload_n C 0 rfl rfl dX6_mostByRows_1 ?_
  refine j_iload_n C 1 rfl rfl dX6_mostByRows_2 ?_
  obtain ⟨r5, hr5, h⟩ := Ob_of h
  refine q_X6_65 C (wc := (mW b gm mod_thrown mod_places mod_firings mod_fired mod_logged mod_tokens mod_weights mod_logs mod_marks mod_whence mod_by mod_leads mod_comes mod_costs mod_next mod_found)) (wc' := (mW b gm mod_thrown mod_places mod_firings mod_fired mod_logged mod_tokens mod_weights mod_logs mod_marks mod_whence mod_by mod_leads mod_comes mod_costs mod_next mod_found)) (c_X6_isPlace l D b gm mod_thrown mod_places mod_firings mod_fired mod_logged mod_tokens mod_weights mod_logs mod_marks mod_whence mod_by mod_leads mod_comes mod_costs mod_next mod_found x1 r5 hr5) ⟨(Nat.le_of_ble_eq_true rfl), (Nat.le_of_ble_eq_true rfl)⟩ rfl rfl 0 rfl rfl (ww _) (ww _) rfl C.2.2.2.2.2.2.1 (Nat.le_of_ble_eq_true rfl) rfl rfl (Nat.zero_le _) (Nat.zero_le _) dX6_mostByRows_3 ?_
  refine j_if_eq C h 13 (by decide) dX6_mostByRows_6 (fun c6 h => ?_) (fun c6 h => ?_)
  · refine j_iconst C dX6_mostByRows_13 ?_
    exact J14 x1 1 mod_thrown mod_marks mod_found h
  · refine j_iconst C dX6_mostByRows_9 ?_
    refine j_goto C 14 (by decide) dX6_mostByRows_10 ?_
    exact J14 x1 0 mod_thrown mod_marks mod_found h
theorem c_X6_mostByRows (l : Launch) (D : va_G) (b : Nat → Nat) (gm : Nat → ClassId) (mod_thrown : Int) (mod_places : Int) (mod_firings : Int) (mod_fired : Int) (mod_logged : Int) (mod_tokens : Nat → Int) (mod_weights : Nat → Int) (mod_logs : Nat → Int) (mod_marks : Nat → Int) (mod_whence : Nat → Int) (mod_by : Nat → Int) (mod_leads : Nat → Int) (mod_comes : Nat → Int) (mod_costs : Nat → Int) (mod_next : Nat → Int) (mod_found : Nat → Int) (x1 : Int) (res : Int × (Int) × (Nat → Int) × (Nat → Int)) (h : F_X6_mostByRows x1 mod_places mod_firings mod_tokens mod_weights mod_thrown mod_marks mod_found = some res) : Kt l yX6_mostByRows cX6_mostByRows 2 (some .int) ({ frames := 4, cells := 0, slots := 0, locals := 98 } : Room) D (mT gm) [.ref (b 0), .int (vI x1)] (mW b gm mod_thrown mod_places mod_firings mod_fired mod_logged mod_tokens mod_weights mod_logs mod_marks mod_whence mod_by mod_leads mod_comes mod_costs mod_next mod_found) (mW b gm res.2.1 mod_places mod_firings mod_fired mod_logged mod_tokens mod_weights mod_logs res.2.2.1 mod_whence mod_by mod_leads mod_comes mod_costs mod_next res.2.2.2) (some (.int (vI res.1))) :=
  kt_i (ty := .int) rfl rfl (by decide +kernel) (Nat.le_of_ble_eq_true rfl) (fun C RET => k_X6_mostByRows C x1 res h RET)
set_option maxRecDepth 100000 in
set_option maxHeartbeats 4000000 in
theorem k_X6_rounds {b : Nat → Nat} {gm : Nat → ClassId} {mod_thrown : Int} {mod_places : Int} {mod_firings : Int} {mod_fired : Int} {mod_logged : Int} {mod_tokens : Nat → Int} {mod_weights : Nat → Int} {mod_logs : Nat → Int} {mod_marks : Nat → Int} {mod_whence : Nat → Int} {mod_by : Nat → Int} {mod_leads : Nat → Int} {mod_comes : Nat → Int} {mod_costs : Nat → Int} {mod_next : Nat → Int} {mod_found : Nat → Int} (C : JC p s m args meth c cX6_rounds 1 "MarkingHallModel" D (mT gm) A)  (res : Int × (Int) × (Nat → Int)) (h : F_X6_rounds mod_places mod_firings mod_weights mod_thrown mod_found = some res) (RET : ∀ (pc : Nat) (lv : List (Nat × Value)), decode cX6_rounds pc = .ok (.ireturn, 1) → J p l e ({ frames := 4, cells := 0, slots := 0, locals := 98 } : Room) s m args below meth c D A 1 Q 0 0 (mW b gm res.2.1 mod_places mod_firings mod_fired mod_logged mod_tokens mod_weights mod_logs mod_marks mod_whence mod_by mod_leads mod_comes mod_costs mod_next res.2.2) pc lv [.int (vI res.1)]) : J p l e ({ frames := 4, cells := 0, slots := 0, locals := 98 } : Room) s m args below meth c D A 1 Q 0 0 (mW b gm mod_thrown mod_places mod_firings mod_fired mod_logged mod_tokens mod_weights mod_logs mod_marks mod_whence mod_by mod_leads mod_comes mod_costs mod_next mod_found) 0 [(0, .ref (b 0))] [] := by
  unfold F_X6_rounds at h
  refine j_aload_n C 0 rfl rfl dX6_rounds_0 ?_
  refine j_iconst C dX6_rounds_1 ?_
  refine p_X6_44 C 0 rfl (Nat.le_of_ble_eq_true rfl) (mW b gm 0 mod_places mod_firings mod_fired mod_logged mod_tokens mod_weights mod_logs mod_marks mod_whence mod_by mod_leads mod_comes mod_costs mod_next mod_found) rfl dX6_rounds_2 ?_
  refine j_aload_n C 0 rfl rfl dX6_rounds_5 ?_
  refine j_iconst C dX6_rounds_6 ?_
  obtain ⟨r1, hr1, h⟩ := Ob_of h
  refine q_X6_132 C (wc := (mW b gm 0 mod_places mod_firings mod_fired mod_logged mod_tokens mod_weights mod_logs mod_marks mod_whence mod_by mod_leads mod_comes mod_costs mod_next mod_found)) (wc' := (mW b gm 0 mod_places mod_firings mod_fired mod_logged mod_tokens mod_weights mod_logs mod_marks mod_whence mod_by mod_leads mod_comes mod_costs mod_next r1.2)) (c_X6_findLeast l D b gm 0 mod_places mod_firings mod_fired mod_logged mod_tokens mod_weights mod_logs mod_marks mod_whence mod_by mod_leads mod_comes mod_costs mod_next mod_found 0 r1 hr1) ⟨(Nat.le_of_ble_eq_true rfl), (Nat.le_of_ble_eq_true rfl)⟩ rfl rfl 0 rfl rfl (ww _) (ww _) mW_ha C.2.2.2.2.2.2.1 (Nat.le_of_ble_eq_true rfl) rfl rfl (Nat.zero_le _) (Nat.zero_le _) dX6_rounds_7 ?_
  cases h
  exact RET _ _ dX6_rounds_10
theorem c_X6_rounds (l : Launch) (D : va_G) (b : Nat → Nat) (gm : Nat → ClassId) (mod_thrown : Int) (mod_places : Int) (mod_firings : Int) (mod_fired : Int) (mod_logged : Int) (mod_tokens : Nat → Int) (mod_weights : Nat → Int) (mod_logs : Nat → Int) (mod_marks : Nat → Int) (mod_whence : Nat → Int) (mod_by : Nat → Int) (mod_leads : Nat → Int) (mod_comes : Nat → Int) (mod_costs : Nat → Int) (mod_next : Nat → Int) (mod_found : Nat → Int)  (res : Int × (Int) × (Nat → Int)) (h : F_X6_rounds mod_places mod_firings mod_weights mod_thrown mod_found = some res) : Kt l yX6_rounds cX6_rounds 1 (some .int) ({ frames := 4, cells := 0, slots := 0, locals := 98 } : Room) D (mT gm) [.ref (b 0)] (mW b gm mod_thrown mod_places mod_firings mod_fired mod_logged mod_tokens mod_weights mod_logs mod_marks mod_whence mod_by mod_leads mod_comes mod_costs mod_next mod_found) (mW b gm res.2.1 mod_places mod_firings mod_fired mod_logged mod_tokens mod_weights mod_logs mod_marks mod_whence mod_by mod_leads mod_comes mod_costs mod_next res.2.2) (some (.int (vI res.1))) :=
  kt_i (ty := .int) rfl rfl (by decide +kernel) (Nat.le_of_ble_eq_true rfl) (fun C RET => k_X6_rounds C res h RET)
set_option maxRecDepth 100000 in
set_option maxHeartbeats 4000000 in
theorem k_X6_round {b : Nat → Nat} {gm : Nat → ClassId} {mod_thrown : Int} {mod_places : Int} {mod_firings : Int} {mod_fired : Int} {mod_logged : Int} {mod_tokens : Nat → Int} {mod_weights : Nat → Int} {mod_logs : Nat → Int} {mod_marks : Nat → Int} {mod_whence : Nat → Int} {mod_by : Nat → Int} {mod_leads : Nat → Int} {mod_comes : Nat → Int} {mod_costs : Nat → Int} {mod_next : Nat → Int} {mod_found : Nat → Int} (C : JC p s m args meth c cX6_round 3 "MarkingHallModel" D (mT gm) A) (x1 : Int) (x2 : Int) (res : Int × (Int) × (Nat → Int)) (h : F_X6_round x1 x2 mod_places mod_firings mod_weights mod_thrown mod_found = some res) (RET : ∀ (pc : Nat) (lv : List (Nat × Value)), decode cX6_round pc = .ok (.ireturn, 1) → J p l e ({ frames := 4, cells := 0, slots := 0, locals := 98 } : Room) s m args below meth c D A 3 Q 0 0 (mW b gm res.2.1 mod_places mod_firings mod_fired mod_logged mod_tokens mod_weights mod_logs mod_marks mod_whence mod_by mod_leads mod_comes mod_costs mod_next res.2.2) pc lv [.int (vI res.1)]) : J p l e ({ frames := 4, cells := 0, slots := 0, locals := 98 } : Room) s m args below meth c D A 3 Q 0 0 (mW b gm mod_thrown mod_places mod_firings mod_fired mod_logged mod_tokens mod_weights mod_logs mod_marks mod_whence mod_by mod_leads mod_comes mod_costs mod_next mod_found) 0 [(0, .ref (b 0)), (1, .int (vI x1)), (2, .int (vI x2))] [] := by
  have J29 : ∀ (l1 : Int) (l2 : Int) (s1 : Int) (mod_thrown : Int) (mod_found : Nat → Int), F_X6_round_b29 mod_places mod_firings mod_weights l1 l2 s1 mod_thrown mod_found = some res → J p l e ({ frames := 4, cells := 0, slots := 0, locals := 98 } : Room) s m args below meth c D A 3 Q 0 0 (mW b gm mod_thrown mod_places mod_firings mod_fired mod_logged mod_tokens mod_weights mod_logs mod_marks mod_whence mod_by mod_leads mod_comes mod_costs mod_next mod_found) 29 [(0, .ref (b 0)), (1, .int (vI l1)), (2, .int (vI l2))] [.int (vI s1), .ref (b 0)] := by
    intro l1 l2 s1 mod_thrown mod_found h
    unfold F_X6_round_b29 at h
    obtain ⟨r1, hr1, h⟩ := Ob_of h
    refine q_X6_58 C (wc := (mW b gm mod_thrown mod_places mod_firings mod_fired mod_logged mod_tokens mod_weights mod_logs mod_marks mod_whence mod_by mod_leads mod_comes mod_costs mod_next mod_found)) (wc' := (mW b gm r1.2 mod_places mod_firings mod_fired mod_logged mod_tokens mod_weights mod_logs mod_marks mod_whence mod_by mod_leads mod_comes mod_costs mod_next mod_found)) (c_X6_goesWell l D b gm mod_thrown mod_places mod_firings mod_fired mod_logged mod_tokens mod_weights mod_logs mod_marks mod_whence mod_by mod_leads mod_comes mod_costs mod_next mod_found s1 r1 hr1) ⟨(Nat.le_of_ble_eq_true rfl), (Nat.le_of_ble_eq_true rfl)⟩ rfl rfl 0 rfl rfl (ww _) (ww _) mW_ha C.2.2.2.2.2.2.1 (Nat.le_of_ble_eq_true rfl) rfl rfl (Nat.zero_le _) (Nat.zero_le _) dX6_round_29 ?_
    refine j_if_eq C h 53 (by decide) dX6_round_32 (fun c4 h => ?_) (fun c4 h => ?_)
    · refine j_iconst C dX6_round_53 ?_
      cases h
      exact RET _ _ dX6_round_54
    · refine j_aload_n C 0 rfl rfl dX6_round_35 ?_
      refine g_X6_41 C (v := .ref (b 11)) 0 rfl rfl dX6_round_36 ?_
      refine j_iload_n C 1 rfl rfl dX6_round_39 ?_
      refine j_iald C 11 10 rfl rfl (Nat.le_of_ble_eq_true rfl) h dX6_round_40 (fun v2 h => ?_)
      refine j_iconst C dX6_round_41 ?_
      refine j_aload_n C 0 rfl rfl dX6_round_42 ?_
      refine g_X6_55 C (v := .int (vI mod_firings)) 0 rfl rfl dX6_round_43 ?_
      refine j_iload_n C 2 rfl rfl dX6_round_46 ?_
      obtain ⟨r3, hr3, h⟩ := Ob_of h
      refine q_X6_116 C (wc := (mW b gm r1.2 mod_places mod_firings mod_fired mod_logged mod_tokens mod_weights mod_logs mod_marks mod_whence mod_by mod_leads mod_comes mod_costs mod_next mod_found)) (wc' := (mW b gm r1.2 mod_places mod_firings mod_fired mod_logged mod_tokens mod_weights mod_logs mod_marks mod_whence mod_by mod_leads mod_comes mod_costs mod_next mod_found)) (c_X6_digit l D _ _ v2 3 mod_firings l2 r3 hr3) ⟨(Nat.le_of_ble_eq_true rfl), (Nat.le_of_ble_eq_true rfl)⟩ rfl rfl rfl (ww _) (ww _) rfl C.2.2.2.2.2.2.1 (Nat.le_of_ble_eq_true rfl) rfl rfl (Nat.zero_le _) (Nat.zero_le _) dX6_round_47 ?_
      refine j_goto C 54 (by decide) dX6_round_50 ?_
      cases h
      exact RET _ _ dX6_round_54
  have J28 : ∀ (l1 : Int) (l2 : Int) (mod_thrown : Int) (mod_found : Nat → Int), F_X6_round_b28 mod_places mod_firings mod_weights l1 l2 mod_thrown mod_found = some res → J p l e ({ frames := 4, cells := 0, slots := 0, locals := 98 } : Room) s m args below meth c D A 3 Q 0 0 (mW b gm mod_thrown mod_places mod_firings mod_fired mod_logged mod_tokens mod_weights mod_logs mod_marks mod_whence mod_by mod_leads mod_comes mod_costs mod_next mod_found) 28 [(0, .ref (b 0)), (1, .int (vI l1)), (2, .int (vI l2))] [.ref (b 0)] := by
    intro l1 l2 mod_thrown mod_found h
    unfold F_X6_round_b28 at h
    refine j_iconst C dX6_round_28 ?_
    exact J29 l1 l2 1 mod_thrown mod_found h
  unfold F_X6_round at h
  refine j_aload_n C 0 rfl rfl dX6_round_0 ?_
  refine j_iload_n C 1 rfl rfl dX6_round_1 ?_
  refine j_iconst C dX6_round_2 ?_
  refine j_aload_n C 0 rfl rfl dX6_round_3 ?_
  refine j_iconst C dX6_round_4 ?_
  obtain ⟨r5, hr5, h⟩ := Ob_of h
  refine q_X6_132 C (wc := (mW b gm mod_thrown mod_places mod_firings mod_fired mod_logged mod_tokens mod_weights mod_logs mod_marks mod_whence mod_by mod_leads mod_comes mod_costs mod_next mod_found)) (wc' := (mW b gm mod_thrown mod_places mod_firings mod_fired mod_logged mod_tokens mod_weights mod_logs mod_marks mod_whence mod_by mod_leads mod_comes mod_costs mod_next r5.2)) (c_X6_findLeast l D b gm mod_thrown mod_places mod_firings mod_fired mod_logged mod_tokens mod_weights mod_logs mod_marks mod_whence mod_by mod_leads mod_comes mod_costs mod_next mod_found 0 r5 hr5) ⟨(Nat.le_of_ble_eq_true rfl), (Nat.le_of_ble_eq_true rfl)⟩ rfl rfl 0 rfl rfl (ww _) (ww _) mW_ha C.2.2.2.2.2.2.1 (Nat.le_of_ble_eq_true rfl) rfl rfl (Nat.zero_le _) (Nat.zero_le _) dX6_round_5 ?_
  refine j_iconst C dX6_round_8 ?_
  refine j_isub C dX6_round_9 ?_
  obtain ⟨r6, hr6, h⟩ := Ob_of h
  refine q_X6_51 C (wc := (mW b gm mod_thrown mod_places mod_firings mod_fired mod_logged mod_tokens mod_weights mod_logs mod_marks mod_whence mod_by mod_leads mod_comes mod_costs mod_next r5.2)) (wc' := (mW b gm mod_thrown mod_places mod_firings mod_fired mod_logged mod_tokens mod_weights mod_logs mod_marks mod_whence mod_by mod_leads mod_comes mod_costs mod_next r5.2)) (c_X6_in l D _ _ x1 0 (r5.1 - 1) r6 hr6) ⟨(Nat.le_of_ble_eq_true rfl), (Nat.le_of_ble_eq_true rfl)⟩ rfl rfl rfl (ww _) (ww _) rfl C.2.2.2.2.2.2.1 (Nat.le_of_ble_eq_true rfl) rfl rfl (Nat.zero_le _) (Nat.zero_le _) dX6_round_10 ?_
  refine j_if_eq C h 28 (by decide) dX6_round_13 (fun c9 h => ?_) (fun c9 h => ?_)
  · exact J28 x1 x2 mod_thrown r5.2 h
  · refine j_aload_n C 0 rfl rfl dX6_round_16 ?_
    refine j_iload_n C 2 rfl rfl dX6_round_17 ?_
    obtain ⟨r7, hr7, h⟩ := Ob_of h
    refine q_X6_62 C (wc := (mW b gm mod_thrown mod_places mod_firings mod_fired mod_logged mod_tokens mod_weights mod_logs mod_marks mod_whence mod_by mod_leads mod_comes mod_costs mod_next r5.2)) (wc' := (mW b gm mod_thrown mod_places mod_firings mod_fired mod_logged mod_tokens mod_weights mod_logs mod_marks mod_whence mod_by mod_leads mod_comes mod_costs mod_next r5.2)) (c_X6_isFiring l D b gm mod_thrown mod_places mod_firings mod_fired mod_logged mod_tokens mod_weights mod_logs mod_marks mod_whence mod_by mod_leads mod_comes mod_costs mod_next r5.2 x2 r7 hr7) ⟨(Nat.le_of_ble_eq_true rfl), (Nat.le_of_ble_eq_true rfl)⟩ rfl rfl 0 rfl rfl (ww _) (ww _) rfl C.2.2.2.2.2.2.1 (Nat.le_of_ble_eq_true rfl) rfl rfl (Nat.zero_le _) (Nat.zero_le _) dX6_round_18 ?_
    refine j_if_eq C h 28 (by decide) dX6_round_21 (fun c8 h => ?_) (fun c8 h => ?_)
    · exact J28 x1 x2 mod_thrown r5.2 h
    · refine j_iconst C dX6_round_24 ?_
      refine j_goto C 29 (by decide) dX6_round_25 ?_
      exact J29 x1 x2 0 mod_thrown r5.2 h
theorem c_X6_round (l : Launch) (D : va_G) (b : Nat → Nat) (gm : Nat → ClassId) (mod_thrown : Int) (mod_places : Int) (mod_firings : Int) (mod_fired : Int) (mod_logged : Int) (mod_tokens : Nat → Int) (mod_weights : Nat → Int) (mod_logs : Nat → Int) (mod_marks : Nat → Int) (mod_whence : Nat → Int) (mod_by : Nat → Int) (mod_leads : Nat → Int) (mod_comes : Nat → Int) (mod_costs : Nat → Int) (mod_next : Nat → Int) (mod_found : Nat → Int) (x1 : Int) (x2 : Int) (res : Int × (Int) × (Nat → Int)) (h : F_X6_round x1 x2 mod_places mod_firings mod_weights mod_thrown mod_found = some res) : Kt l yX6_round cX6_round 3 (some .int) ({ frames := 4, cells := 0, slots := 0, locals := 98 } : Room) D (mT gm) [.ref (b 0), .int (vI x1), .int (vI x2)] (mW b gm mod_thrown mod_places mod_firings mod_fired mod_logged mod_tokens mod_weights mod_logs mod_marks mod_whence mod_by mod_leads mod_comes mod_costs mod_next mod_found) (mW b gm res.2.1 mod_places mod_firings mod_fired mod_logged mod_tokens mod_weights mod_logs mod_marks mod_whence mod_by mod_leads mod_comes mod_costs mod_next res.2.2) (some (.int (vI res.1))) :=
  kt_i (ty := .int) rfl rfl (by decide +kernel) (Nat.le_of_ble_eq_true rfl) (fun C RET => k_X6_round C x1 x2 res h RET)
set_option maxRecDepth 100000 in
set_option maxHeartbeats 4000000 in
theorem k_X6_keeps {b : Nat → Nat} {gm : Nat → ClassId} {mod_thrown : Int} {mod_places : Int} {mod_firings : Int} {mod_fired : Int} {mod_logged : Int} {mod_tokens : Nat → Int} {mod_weights : Nat → Int} {mod_logs : Nat → Int} {mod_marks : Nat → Int} {mod_whence : Nat → Int} {mod_by : Nat → Int} {mod_leads : Nat → Int} {mod_comes : Nat → Int} {mod_costs : Nat → Int} {mod_next : Nat → Int} {mod_found : Nat → Int} (C : JC p s m args meth c cX6_keeps 6 "MarkingHallModel" D (mT gm) A)  (res : Int × (Int) × (Nat → Int) × (Nat → Int) × (Nat → Int) × (Nat → Int) × (Nat → Int)) (h : F_X6_keeps mod_places mod_firings mod_tokens mod_weights mod_thrown mod_marks mod_whence mod_by mod_leads mod_found = some res) (RET : ∀ (pc : Nat) (lv : List (Nat × Value)), (res.1 = 0 ∨ res.1 = 1) → decode cX6_keeps pc = .ok (.ireturn, 1) → J p l e ({ frames := 4, cells := 0, slots := 0, locals := 98 } : Room) s m args below meth c D A 6 Q 0 0 (mW b gm res.2.1 mod_places mod_firings mod_fired mod_logged mod_tokens mod_weights mod_logs res.2.2.1 res.2.2.2.1 res.2.2.2.2.1 res.2.2.2.2.2.1 mod_comes mod_costs mod_next res.2.2.2.2.2.2) pc lv [.int (vI res.1)]) : J p l e ({ frames := 4, cells := 0, slots := 0, locals := 98 } : Room) s m args below meth c D A 6 Q 0 0 (mW b gm mod_thrown mod_places mod_firings mod_fired mod_logged mod_tokens mod_weights mod_logs mod_marks mod_whence mod_by mod_leads mod_comes mod_costs mod_next mod_found) 0 [(0, .ref (b 0))] [] := by
  have J89 : ∀ (n : Nat) (l1 : Int) (l2 : Int) (l3 : Int) (l4 : Int) (mod_thrown : Int) (mod_marks : Nat → Int) (mod_whence : Nat → Int) (mod_by : Nat → Int) (mod_leads : Nat → Int) (mod_found : Nat → Int), F_X6_keeps_b89 mod_places mod_firings mod_tokens mod_weights n l1 l2 l3 l4 mod_thrown mod_marks mod_whence mod_by mod_leads mod_found = some res → J p l e ({ frames := 4, cells := 0, slots := 0, locals := 98 } : Room) s m args below meth c D A 6 Q 0 0 (mW b gm mod_thrown mod_places mod_firings mod_fired mod_logged mod_tokens mod_weights mod_logs mod_marks mod_whence mod_by mod_leads mod_comes mod_costs mod_next mod_found) 89 [(0, .ref (b 0)), (1, .int (vI l1)), (2, .int (vI l2)), (3, .int (vI l3)), (4, .int (vI l4))] [] := by
    intro n
    induction n with
    | zero => intro l1 l2 l3 l4 mod_thrown mod_marks mod_whence mod_by mod_leads mod_found h; exact no_h h
    | succ n ih89 =>
      intro l1 l2 l3 l4 mod_thrown mod_marks mod_whence mod_by mod_leads mod_found h
      replace h : F_X6_keeps_b89_body mod_places mod_firings mod_tokens mod_weights (F_X6_keeps_b89 mod_places mod_firings mod_tokens mod_weights n) l1 l2 l3 l4 mod_thrown mod_marks mod_whence mod_by mod_leads mod_found = some res := h
      generalize F_X6_keeps_b89 mod_places mod_firings mod_tokens mod_weights n = ag89 at ih89 h
      have J134 : ∀ (l1 : Int) (l2 : Int) (l4 : Int) (s0 : Int) (mod_thrown : Int) (mod_marks : Nat → Int) (mod_whence : Nat → Int) (mod_by : Nat → Int) (mod_leads : Nat → Int) (mod_found : Nat → Int), F_X6_keeps_b134 mod_places mod_firings mod_tokens mod_weights ag89 l1 l2 l4 s0 mod_thrown mod_marks mod_whence mod_by mod_leads mod_found = some res → J p l e ({ frames := 4, cells := 0, slots := 0, locals := 98 } : Room) s m args below meth c D A 6 Q 0 0 (mW b gm mod_thrown mod_places mod_firings mod_fired mod_logged mod_tokens mod_weights mod_logs mod_marks mod_whence mod_by mod_leads mod_comes mod_costs mod_next mod_found) 134 [(0, .ref (b 0)), (1, .int (vI l1)), (2, .int (vI l2)), (4, .int (vI l4))] [.int (vI s0)] := by
        intro l1 l2 l4 s0 mod_thrown mod_marks mod_whence mod_by mod_leads mod_found h
        unfold F_X6_keeps_b134 at h
        refine j_istore_n C [(3, .int (vI s0)), (0, .ref (b 0)), (1, .int (vI l1)), (2, .int (vI l2)), (4, .int (vI l4))] rfl rfl (by decide) dX6_keeps_134 ?_
        refine j_iinc C 4 rfl (fun v => [(4, .int (vI v)), (3, .int (vI s0)), (0, .ref (b 0)), (1, .int (vI l1)), (2, .int (vI l2))]) (fun _ => rfl) (by decide) h dX6_keeps_135 (fun v1 h => ?_)
        refine j_goto C 89 (by decide) dX6_keeps_138 ?_
        refine j_lv [2, 3, 4, 1, 0] rfl ?_
        exact ih89 l1 l2 s0 v1 mod_thrown mod_marks mod_whence mod_by mod_leads mod_found h
      have J133 : ∀ (l1 : Int) (l2 : Int) (l4 : Int) (mod_thrown : Int) (mod_marks : Nat → Int) (mod_whence : Nat → Int) (mod_by : Nat → Int) (mod_leads : Nat → Int) (mod_found : Nat → Int), F_X6_keeps_b133 mod_places mod_firings mod_tokens mod_weights ag89 l1 l2 l4 mod_thrown mod_marks mod_whence mod_by mod_leads mod_found = some res → J p l e ({ frames := 4, cells := 0, slots := 0, locals := 98 } : Room) s m args below meth c D A 6 Q 0 0 (mW b gm mod_thrown mod_places mod_firings mod_fired mod_logged mod_tokens mod_weights mod_logs mod_marks mod_whence mod_by mod_leads mod_comes mod_costs mod_next mod_found) 133 [(0, .ref (b 0)), (1, .int (vI l1)), (2, .int (vI l2)), (4, .int (vI l4))] [] := by
        intro l1 l2 l4 mod_thrown mod_marks mod_whence mod_by mod_leads mod_found h
        unfold F_X6_keeps_b133 at h
        refine j_iconst C dX6_keeps_133 ?_
        exact J134 l1 l2 l4 0 mod_thrown mod_marks mod_whence mod_by mod_leads mod_found h
      have J129 : ∀ (l1 : Int) (l2 : Int) (l4 : Int) (mod_thrown : Int) (mod_marks : Nat → Int) (mod_whence : Nat → Int) (mod_by : Nat → Int) (mod_leads : Nat → Int) (mod_found : Nat → Int), F_X6_keeps_b129 mod_places mod_firings mod_tokens mod_weights ag89 l1 l2 l4 mod_thrown mod_marks mod_whence mod_by mod_leads mod_found = some res → J p l e ({ frames := 4, cells := 0, slots := 0, locals := 98 } : Room) s m args below meth c D A 6 Q 0 0 (mW b gm mod_thrown mod_places mod_firings mod_fired mod_logged mod_tokens mod_weights mod_logs mod_marks mod_whence mod_by mod_leads mod_comes mod_costs mod_next mod_found) 129 [(0, .ref (b 0)), (1, .int (vI l1)), (2, .int (vI l2)), (4, .int (vI l4))] [] := by
        intro l1 l2 l4 mod_thrown mod_marks mod_whence mod_by mod_leads mod_found h
        unfold F_X6_keeps_b129 at h
        refine j_iconst C dX6_keeps_129 ?_
        refine j_goto C 134 (by decide) dX6_keeps_130 ?_
        exact J134 l1 l2 l4 1 mod_thrown mod_marks mod_whence mod_by mod_leads mod_found h
      unfold F_X6_keeps_b89_body at h
      refine j_iload C 4 rfl dX6_keeps_89 ?_
      refine j_aload_n C 0 rfl rfl dX6_keeps_91 ?_
      refine g_X6_48 C (v := .int (vI mod_places)) 0 rfl rfl dX6_keeps_92 ?_
      refine j_icmp_ge C h 141 (by decide) dX6_keeps_95 (fun c8 h => ?_) (fun c8 h => ?_)
      · refine j_iload_n C 3 rfl rfl dX6_keeps_141 ?_
        obtain ⟨hz2, h⟩ := G_of h
        cases h
        exact RET _ _ hz2 dX6_keeps_142
      · refine j_aload_n C 0 rfl rfl dX6_keeps_98 ?_
        refine j_iload C 4 rfl dX6_keeps_99 ?_
        refine j_iload_n C 1 rfl rfl dX6_keeps_101 ?_
        obtain ⟨r3, hr3, h⟩ := Ob_of h
        refine q_X6_139 C (wc := (mW b gm mod_thrown mod_places mod_firings mod_fired mod_logged mod_tokens mod_weights mod_logs mod_marks mod_whence mod_by mod_leads mod_comes mod_costs mod_next mod_found)) (wc' := (mW b gm mod_thrown mod_places mod_firings mod_fired mod_logged mod_tokens mod_weights mod_logs r3.2 mod_whence mod_by mod_leads mod_comes mod_costs mod_next mod_found)) (c_X6_boundOf l D b gm mod_thrown mod_places mod_firings mod_fired mod_logged mod_tokens mod_weights mod_logs mod_marks mod_whence mod_by mod_leads mod_comes mod_costs mod_next mod_found l4 l1 r3 hr3) ⟨(Nat.le_of_ble_eq_true rfl), (Nat.le_of_ble_eq_true rfl)⟩ rfl rfl 0 rfl rfl (ww _) (ww _) mW_ha C.2.2.2.2.2.2.1 (Nat.le_of_ble_eq_true rfl) rfl rfl (Nat.zero_le _) (Nat.zero_le _) dX6_keeps_102 ?_
        refine j_istore C [(5, .int (vI r3.1)), (0, .ref (b 0)), (1, .int (vI l1)), (2, .int (vI l2)), (3, .int (vI l3)), (4, .int (vI l4))] rfl (by decide) dX6_keeps_105 ?_
        refine j_iload_n C 4 rfl rfl dX6_keeps_107 ?_
        refine j_if_eq C h 133 (by decide) dX6_keeps_108 (fun c7 h => ?_) (fun c7 h => ?_)
        · refine j_lv [1, 2, 3, 5] rfl ?_
          exact J133 l1 l2 l4 mod_thrown r3.2 mod_whence mod_by mod_leads mod_found h
        · refine j_iload C 0 rfl dX6_keeps_111 ?_
          refine j_iconst C dX6_keeps_113 ?_
          refine j_icmp_eq C h 129 (by decide) dX6_keeps_114 (fun c6 h => ?_) (fun c6 h => ?_)
          · refine j_lv [1, 2, 3, 5] rfl ?_
            exact J129 l1 l2 l4 mod_thrown r3.2 mod_whence mod_by mod_leads mod_found h
          · refine j_aload_n C 1 rfl rfl dX6_keeps_117 ?_
            refine j_iload C 5 rfl dX6_keeps_118 ?_
            refine j_iload_n C 3 rfl rfl dX6_keeps_120 ?_
            obtain ⟨r4, hr4, h⟩ := Ob_of h
            refine q_X6_106 C (wc := (mW b gm mod_thrown mod_places mod_firings mod_fired mod_logged mod_tokens mod_weights mod_logs r3.2 mod_whence mod_by mod_leads mod_comes mod_costs mod_next mod_found)) (wc' := (mW b gm mod_thrown mod_places mod_firings mod_fired mod_logged mod_tokens mod_weights mod_logs r3.2 mod_whence mod_by mod_leads mod_comes mod_costs mod_next mod_found)) (c_X6_mostOf l D b gm mod_thrown mod_places mod_firings mod_fired mod_logged mod_tokens mod_weights mod_logs r3.2 mod_whence mod_by mod_leads mod_comes mod_costs mod_next mod_found l4 l2 r4 hr4) ⟨(Nat.le_of_ble_eq_true rfl), (Nat.le_of_ble_eq_true rfl)⟩ rfl rfl 0 rfl rfl (ww _) (ww _) rfl C.2.2.2.2.2.2.1 (Nat.le_of_ble_eq_true rfl) rfl rfl (Nat.zero_le _) (Nat.zero_le _) dX6_keeps_121 ?_
            refine j_iload C 0 rfl dX6_keeps_124 ?_
            refine j_icmp_gt C h 133 (by decide) dX6_keeps_126 (fun c5 h => ?_) (fun c5 h => ?_)
            · refine j_lv [1, 2, 3, 5] rfl ?_
              exact J133 l1 l2 l4 mod_thrown r3.2 mod_whence mod_by mod_leads mod_found h
            · refine j_lv [1, 2, 3, 5] rfl ?_
              exact J129 l1 l2 l4 mod_thrown r3.2 mod_whence mod_by mod_leads mod_found h
  have J21 : ∀ (n : Nat) (l1 : Int) (l2 : Int) (l3 : Int) (l4 : Int) (mod_thrown : Int) (mod_marks : Nat → Int) (mod_whence : Nat → Int) (mod_by : Nat → Int) (mod_leads : Nat → Int) (mod_found : Nat → Int), F_X6_keeps_b21 mod_places mod_firings mod_tokens mod_weights n l1 l2 l3 l4 mod_thrown mod_marks mod_whence mod_by mod_leads mod_found = some res → J p l e ({ frames := 4, cells := 0, slots := 0, locals := 98 } : Room) s m args below meth c D A 6 Q 0 0 (mW b gm mod_thrown mod_places mod_firings mod_fired mod_logged mod_tokens mod_weights mod_logs mod_marks mod_whence mod_by mod_leads mod_comes mod_costs mod_next mod_found) 21 [(0, .ref (b 0)), (1, .int (vI l1)), (2, .int (vI l2)), (3, .int (vI l3)), (4, .int (vI l4))] [] := by
    intro n
    induction n with
    | zero => intro l1 l2 l3 l4 mod_thrown mod_marks mod_whence mod_by mod_leads mod_found h; exact no_h h
    | succ n ih21 =>
      intro l1 l2 l3 l4 mod_thrown mod_marks mod_whence mod_by mod_leads mod_found h
      replace h : F_X6_keeps_b21_body mod_places mod_firings mod_tokens mod_weights (F_X6_keeps_b21 mod_places mod_firings mod_tokens mod_weights n) l1 l2 l3 l4 mod_thrown mod_marks mod_whence mod_by mod_leads mod_found = some res := h
      generalize F_X6_keeps_b21 mod_places mod_firings mod_tokens mod_weights n = ag21 at ih21 h
      have J30 : ∀ (n : Nat) (l1 : Int) (l2 : Int) (l3 : Int) (l4 : Int) (l5 : Int) (mod_thrown : Int) (mod_marks : Nat → Int) (mod_whence : Nat → Int) (mod_by : Nat → Int) (mod_leads : Nat → Int) (mod_found : Nat → Int), F_X6_keeps_b30 mod_places mod_firings mod_tokens mod_weights ag21 n l1 l2 l3 l4 l5 mod_thrown mod_marks mod_whence mod_by mod_leads mod_found = some res → J p l e ({ frames := 4, cells := 0, slots := 0, locals := 98 } : Room) s m args below meth c D A 6 Q 0 0 (mW b gm mod_thrown mod_places mod_firings mod_fired mod_logged mod_tokens mod_weights mod_logs mod_marks mod_whence mod_by mod_leads mod_comes mod_costs mod_next mod_found) 30 [(0, .ref (b 0)), (1, .int (vI l1)), (2, .int (vI l2)), (3, .int (vI l3)), (4, .int (vI l4)), (5, .int (vI l5))] [] := by
        intro n
        induction n with
        | zero => intro l1 l2 l3 l4 l5 mod_thrown mod_marks mod_whence mod_by mod_leads mod_found h; exact no_h h
        | succ n ih30 =>
          intro l1 l2 l3 l4 l5 mod_thrown mod_marks mod_whence mod_by mod_leads mod_found h
          replace h : F_X6_keeps_b30_body mod_places mod_firings mod_tokens mod_weights ag21 (F_X6_keeps_b30 mod_places mod_firings mod_tokens mod_weights ag21 n) l1 l2 l3 l4 l5 mod_thrown mod_marks mod_whence mod_by mod_leads mod_found = some res := h
          generalize F_X6_keeps_b30 mod_places mod_firings mod_tokens mod_weights ag21 n = ag30 at ih30 h
          have J73 : ∀ (l1 : Int) (l2 : Int) (l4 : Int) (l5 : Int) (s0 : Int) (mod_thrown : Int) (mod_marks : Nat → Int) (mod_whence : Nat → Int) (mod_by : Nat → Int) (mod_leads : Nat → Int) (mod_found : Nat → Int), F_X6_keeps_b73 mod_places mod_firings mod_tokens mod_weights ag21 ag30 l1 l2 l4 l5 s0 mod_thrown mod_marks mod_whence mod_by mod_leads mod_found = some res → J p l e ({ frames := 4, cells := 0, slots := 0, locals := 98 } : Room) s m args below meth c D A 6 Q 0 0 (mW b gm mod_thrown mod_places mod_firings mod_fired mod_logged mod_tokens mod_weights mod_logs mod_marks mod_whence mod_by mod_leads mod_comes mod_costs mod_next mod_found) 73 [(0, .ref (b 0)), (1, .int (vI l1)), (2, .int (vI l2)), (4, .int (vI l4)), (5, .int (vI l5))] [.int (vI s0)] := by
            intro l1 l2 l4 l5 s0 mod_thrown mod_marks mod_whence mod_by mod_leads mod_found h
            unfold F_X6_keeps_b73 at h
            refine j_istore_n C [(3, .int (vI s0)), (0, .ref (b 0)), (1, .int (vI l1)), (2, .int (vI l2)), (4, .int (vI l4)), (5, .int (vI l5))] rfl rfl (by decide) dX6_keeps_73 ?_
            refine j_iinc C 5 rfl (fun v => [(5, .int (vI v)), (3, .int (vI s0)), (0, .ref (b 0)), (1, .int (vI l1)), (2, .int (vI l2)), (4, .int (vI l4))]) (fun _ => rfl) (by decide) h dX6_keeps_74 (fun v9 h => ?_)
            refine j_goto C 30 (by decide) dX6_keeps_77 ?_
            refine j_lv [2, 3, 4, 1, 5, 0] rfl ?_
            exact ih30 l1 l2 s0 l4 v9 mod_thrown mod_marks mod_whence mod_by mod_leads mod_found h
          have J72 : ∀ (l1 : Int) (l2 : Int) (l4 : Int) (l5 : Int) (mod_thrown : Int) (mod_marks : Nat → Int) (mod_whence : Nat → Int) (mod_by : Nat → Int) (mod_leads : Nat → Int) (mod_found : Nat → Int), F_X6_keeps_b72 mod_places mod_firings mod_tokens mod_weights ag21 ag30 l1 l2 l4 l5 mod_thrown mod_marks mod_whence mod_by mod_leads mod_found = some res → J p l e ({ frames := 4, cells := 0, slots := 0, locals := 98 } : Room) s m args below meth c D A 6 Q 0 0 (mW b gm mod_thrown mod_places mod_firings mod_fired mod_logged mod_tokens mod_weights mod_logs mod_marks mod_whence mod_by mod_leads mod_comes mod_costs mod_next mod_found) 72 [(0, .ref (b 0)), (1, .int (vI l1)), (2, .int (vI l2)), (4, .int (vI l4)), (5, .int (vI l5))] [] := by
            intro l1 l2 l4 l5 mod_thrown mod_marks mod_whence mod_by mod_leads mod_found h
            unfold F_X6_keeps_b72 at h
            refine j_iconst C dX6_keeps_72 ?_
            exact J73 l1 l2 l4 l5 0 mod_thrown mod_marks mod_whence mod_by mod_leads mod_found h
          unfold F_X6_keeps_b30_body at h
          refine j_iload C 5 rfl dX6_keeps_30 ?_
          refine j_iload_n C 1 rfl rfl dX6_keeps_32 ?_
          refine j_icmp_ge C h 80 (by decide) dX6_keeps_33 (fun c17 h => ?_) (fun c17 h => ?_)
          · refine j_iinc C 4 rfl (fun v => [(4, .int (vI v)), (0, .ref (b 0)), (1, .int (vI l1)), (2, .int (vI l2)), (3, .int (vI l3)), (5, .int (vI l5))]) (fun _ => rfl) (by decide) h dX6_keeps_80 (fun v10 h => ?_)
            refine j_goto C 21 (by decide) dX6_keeps_83 ?_
            refine j_lv [1, 2, 3, 4, 0] rfl ?_
            exact ih21 l1 l2 l3 v10 mod_thrown mod_marks mod_whence mod_by mod_leads mod_found h
          · refine j_iload_n C 3 rfl rfl dX6_keeps_36 ?_
            refine j_if_eq C h 72 (by decide) dX6_keeps_37 (fun c16 h => ?_) (fun c16 h => ?_)
            · refine j_lv [0, 1, 2, 4, 5] rfl ?_
              exact J72 l1 l2 l4 l5 mod_thrown mod_marks mod_whence mod_by mod_leads mod_found h
            · refine j_aload_n C 0 rfl rfl dX6_keeps_40 ?_
              refine j_aload_n C 0 rfl rfl dX6_keeps_41 ?_
              refine g_X6_41 C (v := .ref (b 11)) 0 rfl rfl dX6_keeps_42 ?_
              refine j_iload C 5 rfl dX6_keeps_45 ?_
              refine j_iald C 11 10 rfl rfl (Nat.le_of_ble_eq_true rfl) h dX6_keeps_47 (fun v11 h => ?_)
              refine j_iload C 4 rfl dX6_keeps_48 ?_
              obtain ⟨r12, hr12, h⟩ := Ob_of h
              refine q_X6_136 C (wc := (mW b gm mod_thrown mod_places mod_firings mod_fired mod_logged mod_tokens mod_weights mod_logs mod_marks mod_whence mod_by mod_leads mod_comes mod_costs mod_next mod_found)) (wc' := (mW b gm mod_thrown mod_places mod_firings mod_fired mod_logged mod_tokens mod_weights mod_logs mod_marks mod_whence mod_by mod_leads mod_comes mod_costs mod_next mod_found)) (c_X6_sumBy l D b gm mod_thrown mod_places mod_firings mod_fired mod_logged mod_tokens mod_weights mod_logs mod_marks mod_whence mod_by mod_leads mod_comes mod_costs mod_next mod_found v11 l4 r12 hr12) ⟨(Nat.le_of_ble_eq_true rfl), (Nat.le_of_ble_eq_true rfl)⟩ rfl rfl 0 rfl rfl (ww _) (ww _) rfl C.2.2.2.2.2.2.1 (Nat.le_of_ble_eq_true rfl) rfl rfl (Nat.zero_le _) (Nat.zero_le _) dX6_keeps_50 ?_
              refine j_aload_n C 0 rfl rfl dX6_keeps_53 ?_
              refine j_aload_n C 0 rfl rfl dX6_keeps_54 ?_
              refine g_X6_41 C (v := .ref (b 11)) 0 rfl rfl dX6_keeps_55 ?_
              refine j_iload C 5 rfl dX6_keeps_58 ?_
              refine j_iald C 11 10 rfl rfl (Nat.le_of_ble_eq_true rfl) h dX6_keeps_60 (fun v13 h => ?_)
              refine j_iconst C dX6_keeps_61 ?_
              obtain ⟨r14, hr14, h⟩ := Ob_of h
              refine q_X6_136 C (wc := (mW b gm mod_thrown mod_places mod_firings mod_fired mod_logged mod_tokens mod_weights mod_logs mod_marks mod_whence mod_by mod_leads mod_comes mod_costs mod_next mod_found)) (wc' := (mW b gm mod_thrown mod_places mod_firings mod_fired mod_logged mod_tokens mod_weights mod_logs mod_marks mod_whence mod_by mod_leads mod_comes mod_costs mod_next mod_found)) (c_X6_sumBy l D b gm mod_thrown mod_places mod_firings mod_fired mod_logged mod_tokens mod_weights mod_logs mod_marks mod_whence mod_by mod_leads mod_comes mod_costs mod_next mod_found v13 0 r14 hr14) ⟨(Nat.le_of_ble_eq_true rfl), (Nat.le_of_ble_eq_true rfl)⟩ rfl rfl 0 rfl rfl (ww _) (ww _) rfl C.2.2.2.2.2.2.1 (Nat.le_of_ble_eq_true rfl) rfl rfl (Nat.zero_le _) (Nat.zero_le _) dX6_keeps_62 ?_
              refine j_icmp_ne C h 72 (by decide) dX6_keeps_65 (fun c15 h => ?_) (fun c15 h => ?_)
              · refine j_lv [0, 1, 2, 4, 5] rfl ?_
                exact J72 l1 l2 l4 l5 mod_thrown mod_marks mod_whence mod_by mod_leads mod_found h
              · refine j_iconst C dX6_keeps_68 ?_
                refine j_goto C 73 (by decide) dX6_keeps_69 ?_
                refine j_lv [0, 1, 2, 4, 5] rfl ?_
                exact J73 l1 l2 l4 l5 1 mod_thrown mod_marks mod_whence mod_by mod_leads mod_found h
      unfold F_X6_keeps_b21_body at h
      refine j_iload C 4 rfl dX6_keeps_21 ?_
      refine j_iload_n C 2 rfl rfl dX6_keeps_23 ?_
      refine j_icmp_ge C h 86 (by decide) dX6_keeps_24 (fun c18 h => ?_) (fun c18 h => ?_)
      · refine j_iconst C dX6_keeps_86 ?_
        refine j_istore C [(4, .int (vI 0)), (0, .ref (b 0)), (1, .int (vI l1)), (2, .int (vI l2)), (3, .int (vI l3))] rfl (by decide) dX6_keeps_87 ?_
        refine j_lv [1, 2, 3, 4, 0] rfl ?_
        exact J89 NN l1 l2 l3 0 mod_thrown mod_marks mod_whence mod_by mod_leads mod_found h
      · refine j_iconst C dX6_keeps_27 ?_
        refine j_istore C [(5, .int (vI 0)), (0, .ref (b 0)), (1, .int (vI l1)), (2, .int (vI l2)), (3, .int (vI l3)), (4, .int (vI l4))] rfl (by decide) dX6_keeps_28 ?_
        refine j_lv [1, 2, 3, 4, 5, 0] rfl ?_
        exact J30 NN l1 l2 l3 l4 0 mod_thrown mod_marks mod_whence mod_by mod_leads mod_found h
  unfold F_X6_keeps at h
  refine j_aload_n C 0 rfl rfl dX6_keeps_0 ?_
  refine j_iconst C dX6_keeps_1 ?_
  refine p_X6_44 C 0 rfl (Nat.le_of_ble_eq_true rfl) (mW b gm 0 mod_places mod_firings mod_fired mod_logged mod_tokens mod_weights mod_logs mod_marks mod_whence mod_by mod_leads mod_comes mod_costs mod_next mod_found) rfl dX6_keeps_2 ?_
  refine j_aload_n C 0 rfl rfl dX6_keeps_5 ?_
  refine j_iconst C dX6_keeps_6 ?_
  obtain ⟨r19, hr19, h⟩ := Ob_of h
  refine q_X6_132 C (wc := (mW b gm 0 mod_places mod_firings mod_fired mod_logged mod_tokens mod_weights mod_logs mod_marks mod_whence mod_by mod_leads mod_comes mod_costs mod_next mod_found)) (wc' := (mW b gm 0 mod_places mod_firings mod_fired mod_logged mod_tokens mod_weights mod_logs mod_marks mod_whence mod_by mod_leads mod_comes mod_costs mod_next r19.2)) (c_X6_findLeast l D b gm 0 mod_places mod_firings mod_fired mod_logged mod_tokens mod_weights mod_logs mod_marks mod_whence mod_by mod_leads mod_comes mod_costs mod_next mod_found 1 r19 hr19) ⟨(Nat.le_of_ble_eq_true rfl), (Nat.le_of_ble_eq_true rfl)⟩ rfl rfl 0 rfl rfl (ww _) (ww _) mW_ha C.2.2.2.2.2.2.1 (Nat.le_of_ble_eq_true rfl) rfl rfl (Nat.zero_le _) (Nat.zero_le _) dX6_keeps_7 ?_
  refine j_istore_n C [(1, .int (vI r19.1)), (0, .ref (b 0))] rfl rfl (by decide) dX6_keeps_10 ?_
  refine j_aload_n C 1 rfl rfl dX6_keeps_11 ?_
  obtain ⟨r20, hr20, h⟩ := Ob_of h
  refine q_X6_91 C (wc := (mW b gm 0 mod_places mod_firings mod_fired mod_logged mod_tokens mod_weights mod_logs mod_marks mod_whence mod_by mod_leads mod_comes mod_costs mod_next r19.2)) (wc' := (mW b gm 0 mod_places mod_firings mod_fired mod_logged mod_tokens mod_weights mod_logs r20.2.1 r20.2.2.1 r20.2.2.2.1 r20.2.2.2.2 mod_comes mod_costs mod_next r19.2)) (c_X6_findAll l D b gm 0 mod_places mod_firings mod_fired mod_logged mod_tokens mod_weights mod_logs mod_marks mod_whence mod_by mod_leads mod_comes mod_costs mod_next r19.2 r20 hr20) ⟨(Nat.le_of_ble_eq_true rfl), (Nat.le_of_ble_eq_true rfl)⟩ rfl rfl 0 rfl rfl (ww _) (ww _) mW_ha C.2.2.2.2.2.2.1 (Nat.le_of_ble_eq_true rfl) rfl rfl (Nat.zero_le _) (Nat.zero_le _) dX6_keeps_12 ?_
  refine j_istore_n C [(2, .int (vI r20.1)), (1, .int (vI r19.1)), (0, .ref (b 0))] rfl rfl (by decide) dX6_keeps_15 ?_
  refine j_iconst C dX6_keeps_16 ?_
  refine j_istore_n C [(3, .int (vI 1)), (2, .int (vI r20.1)), (1, .int (vI r19.1)), (0, .ref (b 0))] rfl rfl (by decide) dX6_keeps_17 ?_
  refine j_iconst C dX6_keeps_18 ?_
  refine j_istore C [(4, .int (vI 1)), (3, .int (vI 1)), (2, .int (vI r20.1)), (1, .int (vI r19.1)), (0, .ref (b 0))] rfl (by decide) dX6_keeps_19 ?_
  refine j_lv [4, 3, 2, 1, 0] rfl ?_
  exact J21 NN r19.1 r20.1 1 1 0 r20.2.1 r20.2.2.1 r20.2.2.2.1 r20.2.2.2.2 r19.2 h
theorem c_X6_keeps (l : Launch) (D : va_G) (b : Nat → Nat) (gm : Nat → ClassId) (mod_thrown : Int) (mod_places : Int) (mod_firings : Int) (mod_fired : Int) (mod_logged : Int) (mod_tokens : Nat → Int) (mod_weights : Nat → Int) (mod_logs : Nat → Int) (mod_marks : Nat → Int) (mod_whence : Nat → Int) (mod_by : Nat → Int) (mod_leads : Nat → Int) (mod_comes : Nat → Int) (mod_costs : Nat → Int) (mod_next : Nat → Int) (mod_found : Nat → Int)  (res : Int × (Int) × (Nat → Int) × (Nat → Int) × (Nat → Int) × (Nat → Int) × (Nat → Int)) (h : F_X6_keeps mod_places mod_firings mod_tokens mod_weights mod_thrown mod_marks mod_whence mod_by mod_leads mod_found = some res) : Kt l yX6_keeps cX6_keeps 6 (some .boolean) ({ frames := 4, cells := 0, slots := 0, locals := 98 } : Room) D (mT gm) [.ref (b 0)] (mW b gm mod_thrown mod_places mod_firings mod_fired mod_logged mod_tokens mod_weights mod_logs mod_marks mod_whence mod_by mod_leads mod_comes mod_costs mod_next mod_found) (mW b gm res.2.1 mod_places mod_firings mod_fired mod_logged mod_tokens mod_weights mod_logs res.2.2.1 res.2.2.2.1 res.2.2.2.2.1 res.2.2.2.2.2.1 mod_comes mod_costs mod_next res.2.2.2.2.2.2) (some (.int (vI res.1))) :=
  kt_z rfl (by decide +kernel) (Nat.le_of_ble_eq_true rfl) (fun C RET => k_X6_keeps C res h RET)
set_option maxRecDepth 100000 in
set_option maxHeartbeats 4000000 in
theorem k_X6_touches {b : Nat → Nat} {gm : Nat → ClassId} {mod_thrown : Int} {mod_places : Int} {mod_firings : Int} {mod_fired : Int} {mod_logged : Int} {mod_tokens : Nat → Int} {mod_weights : Nat → Int} {mod_logs : Nat → Int} {mod_marks : Nat → Int} {mod_whence : Nat → Int} {mod_by : Nat → Int} {mod_leads : Nat → Int} {mod_comes : Nat → Int} {mod_costs : Nat → Int} {mod_next : Nat → Int} {mod_found : Nat → Int} (C : JC p s m args meth c cX6_touches 6 "MarkingHallModel" D (mT gm) A) (x1 : Int) (x2 : Int) (x3 : Int) (res : Int) (h : F_X6_touches x1 x2 x3 mod_places mod_weights = some res) (RET : ∀ (pc : Nat) (lv : List (Nat × Value)), (res = 0 ∨ res = 1) → decode cX6_touches pc = .ok (.ireturn, 1) → J p l e ({ frames := 1, cells := 0, slots := 0, locals := 23 } : Room) s m args below meth c D A 6 Q 0 0 (mW b gm mod_thrown mod_places mod_firings mod_fired mod_logged mod_tokens mod_weights mod_logs mod_marks mod_whence mod_by mod_leads mod_comes mod_costs mod_next mod_found) pc lv [.int (vI res)]) : J p l e ({ frames := 1, cells := 0, slots := 0, locals := 23 } : Room) s m args below meth c D A 6 Q 0 0 (mW b gm mod_thrown mod_places mod_firings mod_fired mod_logged mod_tokens mod_weights mod_logs mod_marks mod_whence mod_by mod_leads mod_comes mod_costs mod_next mod_found) 0 [(0, .ref (b 0)), (1, .int (vI x1)), (2, .int (vI x2)), (3, .int (vI x3))] [] := by
  have J6 : ∀ (n : Nat) (l1 : Int) (l2 : Int) (l3 : Int) (l4 : Int) (l5 : Int), F_X6_touches_b6 mod_places mod_weights n l1 l2 l3 l4 l5 = some res → J p l e ({ frames := 1, cells := 0, slots := 0, locals := 23 } : Room) s m args below meth c D A 6 Q 0 0 (mW b gm mod_thrown mod_places mod_firings mod_fired mod_logged mod_tokens mod_weights mod_logs mod_marks mod_whence mod_by mod_leads mod_comes mod_costs mod_next mod_found) 6 [(0, .ref (b 0)), (1, .int (vI l1)), (2, .int (vI l2)), (3, .int (vI l3)), (4, .int (vI l4)), (5, .int (vI l5))] [] := by
    intro n
    induction n with
    | zero => intro l1 l2 l3 l4 l5 h; exact no_h h
    | succ n ih6 =>
      intro l1 l2 l3 l4 l5 h
      replace h : F_X6_touches_b6_body mod_places mod_weights (F_X6_touches_b6 mod_places mod_weights n) l1 l2 l3 l4 l5 = some res := h
      generalize F_X6_touches_b6 mod_places mod_weights n = ag6 at ih6 h
      have J46 : ∀ (l1 : Int) (l2 : Int) (l3 : Int) (l5 : Int) (s0 : Int), F_X6_touches_b46 mod_places mod_weights ag6 l1 l2 l3 l5 s0 = some res → J p l e ({ frames := 1, cells := 0, slots := 0, locals := 23 } : Room) s m args below meth c D A 6 Q 0 0 (mW b gm mod_thrown mod_places mod_firings mod_fired mod_logged mod_tokens mod_weights mod_logs mod_marks mod_whence mod_by mod_leads mod_comes mod_costs mod_next mod_found) 46 [(0, .ref (b 0)), (1, .int (vI l1)), (2, .int (vI l2)), (3, .int (vI l3)), (5, .int (vI l5))] [.int (vI s0)] := by
        intro l1 l2 l3 l5 s0 h
        unfold F_X6_touches_b46 at h
        refine j_istore C [(4, .int (vI s0)), (0, .ref (b 0)), (1, .int (vI l1)), (2, .int (vI l2)), (3, .int (vI l3)), (5, .int (vI l5))] rfl (by decide) dX6_touches_46 ?_
        refine j_iinc C 5 rfl (fun v => [(5, .int (vI v)), (4, .int (vI s0)), (0, .ref (b 0)), (1, .int (vI l1)), (2, .int (vI l2)), (3, .int (vI l3))]) (fun _ => rfl) (by decide) h dX6_touches_48 (fun v1 h => ?_)
        refine j_goto C 6 (by decide) dX6_touches_51 ?_
        refine j_lv [2, 3, 4, 5, 1, 0] rfl ?_
        exact ih6 l1 l2 l3 s0 v1 h
      have J45 : ∀ (l1 : Int) (l2 : Int) (l3 : Int) (l5 : Int), F_X6_touches_b45 mod_places mod_weights ag6 l1 l2 l3 l5 = some res → J p l e ({ frames := 1, cells := 0, slots := 0, locals := 23 } : Room) s m args below meth c D A 6 Q 0 0 (mW b gm mod_thrown mod_places mod_firings mod_fired mod_logged mod_tokens mod_weights mod_logs mod_marks mod_whence mod_by mod_leads mod_comes mod_costs mod_next mod_found) 45 [(0, .ref (b 0)), (1, .int (vI l1)), (2, .int (vI l2)), (3, .int (vI l3)), (5, .int (vI l5))] [] := by
        intro l1 l2 l3 l5 h
        unfold F_X6_touches_b45 at h
        refine j_iconst C dX6_touches_45 ?_
        exact J46 l1 l2 l3 l5 0 h
      have J41 : ∀ (l1 : Int) (l2 : Int) (l3 : Int) (l5 : Int), F_X6_touches_b41 mod_places mod_weights ag6 l1 l2 l3 l5 = some res → J p l e ({ frames := 1, cells := 0, slots := 0, locals := 23 } : Room) s m args below meth c D A 6 Q 0 0 (mW b gm mod_thrown mod_places mod_firings mod_fired mod_logged mod_tokens mod_weights mod_logs mod_marks mod_whence mod_by mod_leads mod_comes mod_costs mod_next mod_found) 41 [(0, .ref (b 0)), (1, .int (vI l1)), (2, .int (vI l2)), (3, .int (vI l3)), (5, .int (vI l5))] [] := by
        intro l1 l2 l3 l5 h
        unfold F_X6_touches_b41 at h
        refine j_iconst C dX6_touches_41 ?_
        refine j_goto C 46 (by decide) dX6_touches_42 ?_
        exact J46 l1 l2 l3 l5 1 h
      unfold F_X6_touches_b6_body at h
      refine j_iload C 5 rfl dX6_touches_6 ?_
      refine j_aload_n C 0 rfl rfl dX6_touches_8 ?_
      refine g_X6_48 C (v := .int (vI mod_places)) 0 rfl rfl dX6_touches_9 ?_
      refine j_icmp_ge C h 54 (by decide) dX6_touches_12 (fun c8 h => ?_) (fun c8 h => ?_)
      · refine j_iload C 4 rfl dX6_touches_54 ?_
        obtain ⟨hz2, h⟩ := G_of h
        cases h
        exact RET _ _ hz2 dX6_touches_56
      · refine j_iload C 4 rfl dX6_touches_15 ?_
        refine j_if_ne C h 41 (by decide) dX6_touches_17 (fun c7 h => ?_) (fun c7 h => ?_)
        · refine j_lv [0, 1, 2, 3, 5] rfl ?_
          exact J41 l1 l2 l3 l5 h
        · refine j_iload_n C 3 rfl rfl dX6_touches_20 ?_
          refine j_iload C 5 rfl dX6_touches_21 ?_
          refine j_ishr C dX6_touches_23 ?_
          refine j_iconst C dX6_touches_24 ?_
          refine j_iand C dX6_touches_25 ?_
          refine j_iconst C dX6_touches_26 ?_
          refine j_nm2 h (fun v3 h => ?_)
          refine j_icmp_ne C h 45 (by decide) dX6_touches_27 (fun c6 h => ?_) (fun c6 h => ?_)
          · refine j_lv [0, 1, 2, 3, 5] rfl ?_
            exact J45 l1 l2 l3 l5 h
          · refine j_aload_n C 0 rfl rfl dX6_touches_30 ?_
            refine j_iload_n C 1 rfl rfl dX6_touches_31 ?_
            refine j_iload_n C 2 rfl rfl dX6_touches_32 ?_
            refine j_iload C 5 rfl dX6_touches_33 ?_
            obtain ⟨r4, hr4, h⟩ := Ob_of h
            refine q_X6_68 C (wc := (mW b gm mod_thrown mod_places mod_firings mod_fired mod_logged mod_tokens mod_weights mod_logs mod_marks mod_whence mod_by mod_leads mod_comes mod_costs mod_next mod_found)) (wc' := (mW b gm mod_thrown mod_places mod_firings mod_fired mod_logged mod_tokens mod_weights mod_logs mod_marks mod_whence mod_by mod_leads mod_comes mod_costs mod_next mod_found)) (c_X6_weight l D b gm mod_thrown mod_places mod_firings mod_fired mod_logged mod_tokens mod_weights mod_logs mod_marks mod_whence mod_by mod_leads mod_comes mod_costs mod_next mod_found l1 l2 l5 r4 hr4) ⟨(Nat.le_of_ble_eq_true rfl), (Nat.le_of_ble_eq_true rfl)⟩ rfl rfl 0 rfl rfl (ww _) (ww _) rfl C.2.2.2.2.2.2.1 (Nat.le_of_ble_eq_true rfl) rfl rfl (Nat.zero_le _) (Nat.zero_le _) dX6_touches_35 ?_
            refine j_if_le C h 45 (by decide) dX6_touches_38 (fun c5 h => ?_) (fun c5 h => ?_)
            · refine j_lv [0, 1, 2, 3, 5] rfl ?_
              exact J45 l1 l2 l3 l5 h
            · refine j_lv [0, 1, 2, 3, 5] rfl ?_
              exact J41 l1 l2 l3 l5 h
  unfold F_X6_touches at h
  refine j_iconst C dX6_touches_0 ?_
  refine j_istore C [(4, .int (vI 0)), (0, .ref (b 0)), (1, .int (vI x1)), (2, .int (vI x2)), (3, .int (vI x3))] rfl (by decide) dX6_touches_1 ?_
  refine j_iconst C dX6_touches_3 ?_
  refine j_istore C [(5, .int (vI 0)), (4, .int (vI 0)), (0, .ref (b 0)), (1, .int (vI x1)), (2, .int (vI x2)), (3, .int (vI x3))] rfl (by decide) dX6_touches_4 ?_
  refine j_lv [2, 3, 4, 5, 1, 0] rfl ?_
  exact J6 NN x1 x2 x3 0 0 h
theorem c_X6_touches (l : Launch) (D : va_G) (b : Nat → Nat) (gm : Nat → ClassId) (mod_thrown : Int) (mod_places : Int) (mod_firings : Int) (mod_fired : Int) (mod_logged : Int) (mod_tokens : Nat → Int) (mod_weights : Nat → Int) (mod_logs : Nat → Int) (mod_marks : Nat → Int) (mod_whence : Nat → Int) (mod_by : Nat → Int) (mod_leads : Nat → Int) (mod_comes : Nat → Int) (mod_costs : Nat → Int) (mod_next : Nat → Int) (mod_found : Nat → Int) (x1 : Int) (x2 : Int) (x3 : Int) (res : Int) (h : F_X6_touches x1 x2 x3 mod_places mod_weights = some res) : Kt l yX6_touches cX6_touches 6 (some .boolean) ({ frames := 1, cells := 0, slots := 0, locals := 23 } : Room) D (mT gm) [.ref (b 0), .int (vI x1), .int (vI x2), .int (vI x3)] (mW b gm mod_thrown mod_places mod_firings mod_fired mod_logged mod_tokens mod_weights mod_logs mod_marks mod_whence mod_by mod_leads mod_comes mod_costs mod_next mod_found) (mW b gm mod_thrown mod_places mod_firings mod_fired mod_logged mod_tokens mod_weights mod_logs mod_marks mod_whence mod_by mod_leads mod_comes mod_costs mod_next mod_found) (some (.int (vI res))) :=
  kt_z rfl (by decide +kernel) (Nat.le_of_ble_eq_true rfl) (fun C RET => k_X6_touches C x1 x2 x3 res h RET)
set_option maxRecDepth 100000 in
set_option maxHeartbeats 4000000 in
theorem k_X6_isSiphon {b : Nat → Nat} {gm : Nat → ClassId} {mod_thrown : Int} {mod_places : Int} {mod_firings : Int} {mod_fired : Int} {mod_logged : Int} {mod_tokens : Nat → Int} {mod_weights : Nat → Int} {mod_logs : Nat → Int} {mod_marks : Nat → Int} {mod_whence : Nat → Int} {mod_by : Nat → Int} {mod_leads : Nat → Int} {mod_comes : Nat → Int} {mod_costs : Nat → Int} {mod_next : Nat → Int} {mod_found : Nat → Int} (C : JC p s m args meth c cX6_isSiphon 4 "MarkingHallModel" D (mT gm) A) (x1 : Int) (res : Int) (h : F_X6_isSiphon x1 mod_places mod_firings mod_weights = some res) (RET : ∀ (pc : Nat) (lv : List (Nat × Value)), (res = 0 ∨ res = 1) → decode cX6_isSiphon pc = .ok (.ireturn, 1) → J p l e ({ frames := 2, cells := 0, slots := 0, locals := 48 } : Room) s m args below meth c D A 4 Q 0 0 (mW b gm mod_thrown mod_places mod_firings mod_fired mod_logged mod_tokens mod_weights mod_logs mod_marks mod_whence mod_by mod_leads mod_comes mod_costs mod_next mod_found) pc lv [.int (vI res)]) : J p l e ({ frames := 2, cells := 0, slots := 0, locals := 48 } : Room) s m args below meth c D A 4 Q 0 0 (mW b gm mod_thrown mod_places mod_firings mod_fired mod_logged mod_tokens mod_weights mod_logs mod_marks mod_whence mod_by mod_leads mod_comes mod_costs mod_next mod_found) 0 [(0, .ref (b 0)), (1, .int (vI x1))] [] := by
  have J4 : ∀ (n : Nat) (l1 : Int) (l2 : Int) (l3 : Int), F_X6_isSiphon_b4 mod_places mod_firings mod_weights n l1 l2 l3 = some res → J p l e ({ frames := 2, cells := 0, slots := 0, locals := 48 } : Room) s m args below meth c D A 4 Q 0 0 (mW b gm mod_thrown mod_places mod_firings mod_fired mod_logged mod_tokens mod_weights mod_logs mod_marks mod_whence mod_by mod_leads mod_comes mod_costs mod_next mod_found) 4 [(0, .ref (b 0)), (1, .int (vI l1)), (2, .int (vI l2)), (3, .int (vI l3))] [] := by
    intro n
    induction n with
    | zero => intro l1 l2 l3 h; exact no_h h
    | succ n ih4 =>
      intro l1 l2 l3 h
      replace h : F_X6_isSiphon_b4_body mod_places mod_firings mod_weights (F_X6_isSiphon_b4 mod_places mod_firings mod_weights n) l1 l2 l3 = some res := h
      generalize F_X6_isSiphon_b4 mod_places mod_firings mod_weights n = ag4 at ih4 h
      have J41 : ∀ (l1 : Int) (l3 : Int) (s0 : Int), F_X6_isSiphon_b41 mod_places mod_firings mod_weights ag4 l1 l3 s0 = some res → J p l e ({ frames := 2, cells := 0, slots := 0, locals := 48 } : Room) s m args below meth c D A 4 Q 0 0 (mW b gm mod_thrown mod_places mod_firings mod_fired mod_logged mod_tokens mod_weights mod_logs mod_marks mod_whence mod_by mod_leads mod_comes mod_costs mod_next mod_found) 41 [(0, .ref (b 0)), (1, .int (vI l1)), (3, .int (vI l3))] [.int (vI s0)] := by
        intro l1 l3 s0 h
        unfold F_X6_isSiphon_b41 at h
        refine j_istore_n C [(2, .int (vI s0)), (0, .ref (b 0)), (1, .int (vI l1)), (3, .int (vI l3))] rfl rfl (by decide) dX6_isSiphon_41 ?_
        refine j_iinc C 3 rfl (fun v => [(3, .int (vI v)), (2, .int (vI s0)), (0, .ref (b 0)), (1, .int (vI l1))]) (fun _ => rfl) (by decide) h dX6_isSiphon_42 (fun v1 h => ?_)
        refine j_goto C 4 (by decide) dX6_isSiphon_45 ?_
        refine j_lv [2, 3, 1, 0] rfl ?_
        exact ih4 l1 s0 v1 h
      have J40 : ∀ (l1 : Int) (l3 : Int), F_X6_isSiphon_b40 mod_places mod_firings mod_weights ag4 l1 l3 = some res → J p l e ({ frames := 2, cells := 0, slots := 0, locals := 48 } : Room) s m args below meth c D A 4 Q 0 0 (mW b gm mod_thrown mod_places mod_firings mod_fired mod_logged mod_tokens mod_weights mod_logs mod_marks mod_whence mod_by mod_leads mod_comes mod_costs mod_next mod_found) 40 [(0, .ref (b 0)), (1, .int (vI l1)), (3, .int (vI l3))] [] := by
        intro l1 l3 h
        unfold F_X6_isSiphon_b40 at h
        refine j_iconst C dX6_isSiphon_40 ?_
        exact J41 l1 l3 0 h
      have J36 : ∀ (l1 : Int) (l3 : Int), F_X6_isSiphon_b36 mod_places mod_firings mod_weights ag4 l1 l3 = some res → J p l e ({ frames := 2, cells := 0, slots := 0, locals := 48 } : Room) s m args below meth c D A 4 Q 0 0 (mW b gm mod_thrown mod_places mod_firings mod_fired mod_logged mod_tokens mod_weights mod_logs mod_marks mod_whence mod_by mod_leads mod_comes mod_costs mod_next mod_found) 36 [(0, .ref (b 0)), (1, .int (vI l1)), (3, .int (vI l3))] [] := by
        intro l1 l3 h
        unfold F_X6_isSiphon_b36 at h
        refine j_iconst C dX6_isSiphon_36 ?_
        refine j_goto C 41 (by decide) dX6_isSiphon_37 ?_
        exact J41 l1 l3 1 h
      unfold F_X6_isSiphon_b4_body at h
      refine j_iload_n C 3 rfl rfl dX6_isSiphon_4 ?_
      refine j_aload_n C 0 rfl rfl dX6_isSiphon_5 ?_
      refine g_X6_55 C (v := .int (vI mod_firings)) 0 rfl rfl dX6_isSiphon_6 ?_
      refine j_icmp_ge C h 48 (by decide) dX6_isSiphon_9 (fun c8 h => ?_) (fun c8 h => ?_)
      · refine j_iload_n C 2 rfl rfl dX6_isSiphon_48 ?_
        obtain ⟨hz2, h⟩ := G_of h
        cases h
        exact RET _ _ hz2 dX6_isSiphon_49
      · refine j_iload_n C 2 rfl rfl dX6_isSiphon_12 ?_
        refine j_if_eq C h 40 (by decide) dX6_isSiphon_13 (fun c7 h => ?_) (fun c7 h => ?_)
        · refine j_lv [0, 1, 3] rfl ?_
          exact J40 l1 l3 h
        · refine j_aload_n C 0 rfl rfl dX6_isSiphon_16 ?_
          refine j_iconst C dX6_isSiphon_17 ?_
          refine j_iload_n C 3 rfl rfl dX6_isSiphon_18 ?_
          refine j_iload_n C 1 rfl rfl dX6_isSiphon_19 ?_
          obtain ⟨r3, hr3, h⟩ := Ob_of h
          refine q_X6_142 C (wc := (mW b gm mod_thrown mod_places mod_firings mod_fired mod_logged mod_tokens mod_weights mod_logs mod_marks mod_whence mod_by mod_leads mod_comes mod_costs mod_next mod_found)) (wc' := (mW b gm mod_thrown mod_places mod_firings mod_fired mod_logged mod_tokens mod_weights mod_logs mod_marks mod_whence mod_by mod_leads mod_comes mod_costs mod_next mod_found)) (c_X6_touches l D b gm mod_thrown mod_places mod_firings mod_fired mod_logged mod_tokens mod_weights mod_logs mod_marks mod_whence mod_by mod_leads mod_comes mod_costs mod_next mod_found 1 l3 l1 r3 hr3) ⟨(Nat.le_of_ble_eq_true rfl), (Nat.le_of_ble_eq_true rfl)⟩ rfl rfl 0 rfl rfl (ww _) (ww _) rfl C.2.2.2.2.2.2.1 (Nat.le_of_ble_eq_true rfl) rfl rfl (Nat.zero_le _) (Nat.zero_le _) dX6_isSiphon_20 ?_
          refine j_if_eq C h 36 (by decide) dX6_isSiphon_23 (fun c6 h => ?_) (fun c6 h => ?_)
          · refine j_lv [0, 1, 3] rfl ?_
            exact J36 l1 l3 h
          · refine j_aload_n C 0 rfl rfl dX6_isSiphon_26 ?_
            refine j_iconst C dX6_isSiphon_27 ?_
            refine j_iload_n C 3 rfl rfl dX6_isSiphon_28 ?_
            refine j_iload_n C 1 rfl rfl dX6_isSiphon_29 ?_
            obtain ⟨r4, hr4, h⟩ := Ob_of h
            refine q_X6_142 C (wc := (mW b gm mod_thrown mod_places mod_firings mod_fired mod_logged mod_tokens mod_weights mod_logs mod_marks mod_whence mod_by mod_leads mod_comes mod_costs mod_next mod_found)) (wc' := (mW b gm mod_thrown mod_places mod_firings mod_fired mod_logged mod_tokens mod_weights mod_logs mod_marks mod_whence mod_by mod_leads mod_comes mod_costs mod_next mod_found)) (c_X6_touches l D b gm mod_thrown mod_places mod_firings mod_fired mod_logged mod_tokens mod_weights mod_logs mod_marks mod_whence mod_by mod_leads mod_comes mod_costs mod_next mod_found 0 l3 l1 r4 hr4) ⟨(Nat.le_of_ble_eq_true rfl), (Nat.le_of_ble_eq_true rfl)⟩ rfl rfl 0 rfl rfl (ww _) (ww _) rfl C.2.2.2.2.2.2.1 (Nat.le_of_ble_eq_true rfl) rfl rfl (Nat.zero_le _) (Nat.zero_le _) dX6_isSiphon_30 ?_
            refine j_if_eq C h 40 (by decide) dX6_isSiphon_33 (fun c5 h => ?_) (fun c5 h => ?_)
            · refine j_lv [0, 1, 3] rfl ?_
              exact J40 l1 l3 h
            · refine j_lv [0, 1, 3] rfl ?_
              exact J36 l1 l3 h
  unfold F_X6_isSiphon at h
  refine j_iconst C dX6_isSiphon_0 ?_
  refine j_istore_n C [(2, .int (vI 1)), (0, .ref (b 0)), (1, .int (vI x1))] rfl rfl (by decide) dX6_isSiphon_1 ?_
  refine j_iconst C dX6_isSiphon_2 ?_
  refine j_istore_n C [(3, .int (vI 0)), (2, .int (vI 1)), (0, .ref (b 0)), (1, .int (vI x1))] rfl rfl (by decide) dX6_isSiphon_3 ?_
  refine j_lv [2, 3, 1, 0] rfl ?_
  exact J4 NN x1 1 0 h
theorem c_X6_isSiphon (l : Launch) (D : va_G) (b : Nat → Nat) (gm : Nat → ClassId) (mod_thrown : Int) (mod_places : Int) (mod_firings : Int) (mod_fired : Int) (mod_logged : Int) (mod_tokens : Nat → Int) (mod_weights : Nat → Int) (mod_logs : Nat → Int) (mod_marks : Nat → Int) (mod_whence : Nat → Int) (mod_by : Nat → Int) (mod_leads : Nat → Int) (mod_comes : Nat → Int) (mod_costs : Nat → Int) (mod_next : Nat → Int) (mod_found : Nat → Int) (x1 : Int) (res : Int) (h : F_X6_isSiphon x1 mod_places mod_firings mod_weights = some res) : Kt l yX6_isSiphon cX6_isSiphon 4 (some .boolean) ({ frames := 2, cells := 0, slots := 0, locals := 48 } : Room) D (mT gm) [.ref (b 0), .int (vI x1)] (mW b gm mod_thrown mod_places mod_firings mod_fired mod_logged mod_tokens mod_weights mod_logs mod_marks mod_whence mod_by mod_leads mod_comes mod_costs mod_next mod_found) (mW b gm mod_thrown mod_places mod_firings mod_fired mod_logged mod_tokens mod_weights mod_logs mod_marks mod_whence mod_by mod_leads mod_comes mod_costs mod_next mod_found) (some (.int (vI res))) :=
  kt_z rfl (by decide +kernel) (Nat.le_of_ble_eq_true rfl) (fun C RET => k_X6_isSiphon C x1 res h RET)
end WK
