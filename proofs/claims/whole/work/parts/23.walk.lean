section WK
variable {p : Program} {l : Launch} {e : Env} {s : State} {m : MethodId} {args : Array Value} {below : List Frame} {meth : Method} {c : Code} {D : va_G} {A : Nat → Prop} {Q : State → Prop}
set_option maxRecDepth 100000 in
set_option maxHeartbeats 4000000 in
theorem k_X6_goOn {b : Nat → Nat} {gm : Nat → ClassId} {mod_thrown : Int} {mod_places : Int} {mod_firings : Int} {mod_fired : Int} {mod_logged : Int} {mod_tokens : Nat → Int} {mod_weights : Nat → Int} {mod_logs : Nat → Int} {mod_marks : Nat → Int} {mod_whence : Nat → Int} {mod_by : Nat → Int} {mod_leads : Nat → Int} {mod_comes : Nat → Int} {mod_costs : Nat → Int} {mod_next : Nat → Int} {mod_found : Nat → Int} (C : JC p s m args meth c cX6_goOn 5 "MarkingHallModel" D (mT gm) A) (x1 : Int) (x2 : Int) (res : (Nat → Int) × (Nat → Int)) (h : F_X6_goOn x1 x2 mod_leads mod_costs mod_next = some res) (RET : ∀ (pc : Nat) (lv : List (Nat × Value)), decode cX6_goOn pc = .ok (.return_, 1) → J p l e ({ frames := 0, cells := 0, slots := 0, locals := 0 } : Room) s m args below meth c D A 5 Q 0 0 (mW b gm mod_thrown mod_places mod_firings mod_fired mod_logged mod_tokens mod_weights mod_logs mod_marks mod_whence mod_by mod_leads mod_comes res.1 res.2 mod_found) pc lv []) : J p l e ({ frames := 0, cells := 0, slots := 0, locals := 0 } : Room) s m args below meth c D A 5 Q 0 0 (mW b gm mod_thrown mod_places mod_firings mod_fired mod_logged mod_tokens mod_weights mod_logs mod_marks mod_whence mod_by mod_leads mod_comes mod_costs mod_next mod_found) 0 [(0, .ref (b 0)), (1, .int (vI x1)), (2, .int (vI x2))] [] := by
  have J90 : ∀ (n : Nat) (l1 : Int) (l3 : Int) (mod_costs : Nat → Int) (mod_next : Nat → Int), F_X6_goOn_b90 mod_leads n l1 l3 mod_costs mod_next = some res → J p l e ({ frames := 0, cells := 0, slots := 0, locals := 0 } : Room) s m args below meth c D A 5 Q 0 0 (mW b gm mod_thrown mod_places mod_firings mod_fired mod_logged mod_tokens mod_weights mod_logs mod_marks mod_whence mod_by mod_leads mod_comes mod_costs mod_next mod_found) 90 [(0, .ref (b 0)), (1, .int (vI l1)), (3, .int (vI l3))] [] := by
    intro n
    induction n with
    | zero => intro l1 l3 mod_costs mod_next h; exact no_h h
    | succ n ih90 =>
      intro l1 l3 mod_costs mod_next h
      replace h : F_X6_goOn_b90_body mod_leads (F_X6_goOn_b90 mod_leads n) l1 l3 mod_costs mod_next = some res := h
      generalize F_X6_goOn_b90 mod_leads n = ag90 at ih90 h
      unfold F_X6_goOn_b90_body at h
      refine j_iload_n C 2 rfl rfl dX6_goOn_90 ?_
      refine j_iload_n C 1 rfl rfl dX6_goOn_91 ?_
      refine j_icmp_ge C h 113 (by decide) dX6_goOn_92 (fun c4 h => ?_) (fun c4 h => ?_)
      · cases h
        exact RET _ _ dX6_goOn_113
      · refine j_aload_n C 0 rfl rfl dX6_goOn_95 ?_
        refine g_X6_35 C (v := .ref (b 9)) 0 rfl rfl dX6_goOn_96 ?_
        refine j_iload_n C 2 rfl rfl dX6_goOn_99 ?_
        refine j_aload_n C 0 rfl rfl dX6_goOn_100 ?_
        refine g_X6_38 C (v := .ref (b 10)) 0 rfl rfl dX6_goOn_101 ?_
        refine j_iload_n C 2 rfl rfl dX6_goOn_104 ?_
        refine j_iald C 10 9 rfl rfl (Nat.le_of_ble_eq_true rfl) h dX6_goOn_105 (fun v1 h => ?_)
        refine j_iast C 9 8 rfl rfl (Nat.le_of_ble_eq_true rfl) (fun f' => (mW b gm mod_thrown mod_places mod_firings mod_fired mod_logged mod_tokens mod_weights mod_logs mod_marks mod_whence mod_by mod_leads mod_comes f' mod_next mod_found)) (fun _ => rfl) h dX6_goOn_106 (fun f2 h => ?_)
        refine j_iinc C 2 rfl (fun v => [(3, .int (vI v)), (0, .ref (b 0)), (1, .int (vI l1))]) (fun _ => rfl) (by decide) h dX6_goOn_107 (fun v3 h => ?_)
        refine j_goto C 90 (by decide) dX6_goOn_110 ?_
        refine j_lv [1, 2, 0] rfl ?_
        exact ih90 l1 v3 f2 mod_next h
  have J29 : ∀ (n : Nat) (l1 : Int) (l2 : Int) (l3 : Int) (mod_costs : Nat → Int) (mod_next : Nat → Int), F_X6_goOn_b29 mod_leads n l1 l2 l3 mod_costs mod_next = some res → J p l e ({ frames := 0, cells := 0, slots := 0, locals := 0 } : Room) s m args below meth c D A 5 Q 0 0 (mW b gm mod_thrown mod_places mod_firings mod_fired mod_logged mod_tokens mod_weights mod_logs mod_marks mod_whence mod_by mod_leads mod_comes mod_costs mod_next mod_found) 29 [(0, .ref (b 0)), (1, .int (vI l1)), (2, .int (vI l2)), (3, .int (vI l3))] [] := by
    intro n
    induction n with
    | zero => intro l1 l2 l3 mod_costs mod_next h; exact no_h h
    | succ n ih29 =>
      intro l1 l2 l3 mod_costs mod_next h
      replace h : F_X6_goOn_b29_body mod_leads (F_X6_goOn_b29 mod_leads n) l1 l2 l3 mod_costs mod_next = some res := h
      generalize F_X6_goOn_b29 mod_leads n = ag29 at ih29 h
      have J82 : ∀ (l1 : Int) (l2 : Int) (l3 : Int) (mod_costs : Nat → Int) (mod_next : Nat → Int), F_X6_goOn_b82 mod_leads ag29 l1 l2 l3 mod_costs mod_next = some res → J p l e ({ frames := 0, cells := 0, slots := 0, locals := 0 } : Room) s m args below meth c D A 5 Q 0 0 (mW b gm mod_thrown mod_places mod_firings mod_fired mod_logged mod_tokens mod_weights mod_logs mod_marks mod_whence mod_by mod_leads mod_comes mod_costs mod_next mod_found) 82 [(0, .ref (b 0)), (1, .int (vI l1)), (2, .int (vI l2)), (3, .int (vI l3))] [] := by
        intro l1 l2 l3 mod_costs mod_next h
        unfold F_X6_goOn_b82 at h
        refine j_iinc C 3 rfl (fun v => [(3, .int (vI v)), (0, .ref (b 0)), (1, .int (vI l1)), (2, .int (vI l2))]) (fun _ => rfl) (by decide) h dX6_goOn_82 (fun v5 h => ?_)
        refine j_goto C 29 (by decide) dX6_goOn_85 ?_
        refine j_lv [1, 2, 3, 0] rfl ?_
        exact ih29 l1 l2 v5 mod_costs mod_next h
      unfold F_X6_goOn_b29_body at h
      refine j_iload_n C 3 rfl rfl dX6_goOn_29 ?_
      refine j_iload_n C 1 rfl rfl dX6_goOn_30 ?_
      refine j_icmp_ge C h 88 (by decide) dX6_goOn_31 (fun c14 h => ?_) (fun c14 h => ?_)
      · refine j_iconst C dX6_goOn_88 ?_
        refine j_istore_n C [(3, .int (vI 0)), (0, .ref (b 0)), (1, .int (vI l1)), (2, .int (vI l2))] rfl rfl (by decide) dX6_goOn_89 ?_
        refine j_lv [1, 2, 0] rfl ?_
        exact J90 NN l1 0 mod_costs mod_next h
      · refine j_aload_n C 0 rfl rfl dX6_goOn_34 ?_
        refine g_X6_28 C (v := .ref (b 7)) 0 rfl rfl dX6_goOn_35 ?_
        refine j_bipush C (by decide) dX6_goOn_38 ?_
        refine j_iload_n C 3 rfl rfl dX6_goOn_40 ?_
        refine j_imul C dX6_goOn_41 ?_
        refine j_iload_n C 2 rfl rfl dX6_goOn_42 ?_
        refine j_iadd C dX6_goOn_43 ?_
        refine j_nm h (fun v6 h => ?_)
        refine j_iald C 7 6 rfl rfl (Nat.le_of_ble_eq_true rfl) h dX6_goOn_44 (fun v7 h => ?_)
        refine j_istore C [(4, .int (vI v7)), (0, .ref (b 0)), (1, .int (vI l1)), (2, .int (vI l2)), (3, .int (vI l3))] rfl (by decide) dX6_goOn_45 ?_
        refine j_iload C 0 rfl dX6_goOn_47 ?_
        refine j_iconst C dX6_goOn_49 ?_
        refine j_icmp_eq C h 82 (by decide) dX6_goOn_50 (fun c13 h => ?_) (fun c13 h => ?_)
        · refine j_lv [1, 2, 3, 4] rfl ?_
          exact J82 l1 l2 l3 mod_costs mod_next h
        · refine j_aload_n C 1 rfl rfl dX6_goOn_53 ?_
          refine g_X6_35 C (v := .ref (b 9)) 0 rfl rfl dX6_goOn_54 ?_
          refine j_iload_n C 4 rfl rfl dX6_goOn_57 ?_
          refine j_iald C 9 8 rfl rfl (Nat.le_of_ble_eq_true rfl) h dX6_goOn_58 (fun v8 h => ?_)
          refine j_aload_n C 1 rfl rfl dX6_goOn_59 ?_
          refine g_X6_38 C (v := .ref (b 10)) 0 rfl rfl dX6_goOn_60 ?_
          refine j_iload C 0 rfl dX6_goOn_63 ?_
          refine j_iald C 10 9 rfl rfl (Nat.le_of_ble_eq_true rfl) h dX6_goOn_65 (fun v9 h => ?_)
          refine j_icmp_ge C h 82 (by decide) dX6_goOn_66 (fun c12 h => ?_) (fun c12 h => ?_)
          · refine j_lv [1, 2, 3, 4] rfl ?_
            exact J82 l1 l2 l3 mod_costs mod_next h
          · refine j_aload_n C 1 rfl rfl dX6_goOn_69 ?_
            refine g_X6_38 C (v := .ref (b 10)) 0 rfl rfl dX6_goOn_70 ?_
            refine j_iload C 0 rfl dX6_goOn_73 ?_
            refine j_aload_n C 1 rfl rfl dX6_goOn_75 ?_
            refine g_X6_35 C (v := .ref (b 9)) 0 rfl rfl dX6_goOn_76 ?_
            refine j_iload_n C 4 rfl rfl dX6_goOn_79 ?_
            refine j_iald C 9 8 rfl rfl (Nat.le_of_ble_eq_true rfl) h dX6_goOn_80 (fun v10 h => ?_)
            refine j_iast C 10 9 rfl rfl (Nat.le_of_ble_eq_true rfl) (fun f' => (mW b gm mod_thrown mod_places mod_firings mod_fired mod_logged mod_tokens mod_weights mod_logs mod_marks mod_whence mod_by mod_leads mod_comes mod_costs f' mod_found)) (fun _ => rfl) h dX6_goOn_81 (fun f11 h => ?_)
            refine j_lv [1, 2, 3, 4] rfl ?_
            exact J82 l1 l2 l3 mod_costs f11 h
  have J2 : ∀ (n : Nat) (l1 : Int) (l2 : Int) (l3 : Int) (mod_costs : Nat → Int) (mod_next : Nat → Int), F_X6_goOn_b2 mod_leads n l1 l2 l3 mod_costs mod_next = some res → J p l e ({ frames := 0, cells := 0, slots := 0, locals := 0 } : Room) s m args below meth c D A 5 Q 0 0 (mW b gm mod_thrown mod_places mod_firings mod_fired mod_logged mod_tokens mod_weights mod_logs mod_marks mod_whence mod_by mod_leads mod_comes mod_costs mod_next mod_found) 2 [(0, .ref (b 0)), (1, .int (vI l1)), (2, .int (vI l2)), (3, .int (vI l3))] [] := by
    intro n
    induction n with
    | zero => intro l1 l2 l3 mod_costs mod_next h; exact no_h h
    | succ n ih2 =>
      intro l1 l2 l3 mod_costs mod_next h
      replace h : F_X6_goOn_b2_body mod_leads (F_X6_goOn_b2 mod_leads n) l1 l2 l3 mod_costs mod_next = some res := h
      generalize F_X6_goOn_b2 mod_leads n = ag2 at ih2 h
      unfold F_X6_goOn_b2_body at h
      refine j_iload_n C 3 rfl rfl dX6_goOn_2 ?_
      refine j_iload_n C 1 rfl rfl dX6_goOn_3 ?_
      refine j_icmp_ge C h 27 (by decide) dX6_goOn_4 (fun c19 h => ?_) (fun c19 h => ?_)
      · refine j_iconst C dX6_goOn_27 ?_
        refine j_istore_n C [(3, .int (vI 0)), (0, .ref (b 0)), (1, .int (vI l1)), (2, .int (vI l2))] rfl rfl (by decide) dX6_goOn_28 ?_
        refine j_lv [1, 2, 3, 0] rfl ?_
        exact J29 NN l1 l2 0 mod_costs mod_next h
      · refine j_aload_n C 0 rfl rfl dX6_goOn_7 ?_
        refine g_X6_38 C (v := .ref (b 10)) 0 rfl rfl dX6_goOn_8 ?_
        refine j_iload_n C 3 rfl rfl dX6_goOn_11 ?_
        refine j_aload_n C 0 rfl rfl dX6_goOn_12 ?_
        refine g_X6_35 C (v := .ref (b 9)) 0 rfl rfl dX6_goOn_13 ?_
        refine j_iload_n C 3 rfl rfl dX6_goOn_16 ?_
        refine j_iald C 9 8 rfl rfl (Nat.le_of_ble_eq_true rfl) h dX6_goOn_17 (fun v15 h => ?_)
        refine j_iconst C dX6_goOn_18 ?_
        refine j_iadd C dX6_goOn_19 ?_
        refine j_nm h (fun v16 h => ?_)
        refine j_iast C 10 9 rfl rfl (Nat.le_of_ble_eq_true rfl) (fun f' => (mW b gm mod_thrown mod_places mod_firings mod_fired mod_logged mod_tokens mod_weights mod_logs mod_marks mod_whence mod_by mod_leads mod_comes mod_costs f' mod_found)) (fun _ => rfl) h dX6_goOn_20 (fun f17 h => ?_)
        refine j_iinc C 3 rfl (fun v => [(3, .int (vI v)), (0, .ref (b 0)), (1, .int (vI l1)), (2, .int (vI l2))]) (fun _ => rfl) (by decide) h dX6_goOn_21 (fun v18 h => ?_)
        refine j_goto C 2 (by decide) dX6_goOn_24 ?_
        refine j_lv [1, 2, 3, 0] rfl ?_
        exact ih2 l1 l2 v18 mod_costs f17 h
  unfold F_X6_goOn at h
  refine j_iconst C dX6_goOn_0 ?_
  refine j_istore_n C [(3, .int (vI 0)), (0, .ref (b 0)), (1, .int (vI x1)), (2, .int (vI x2))] rfl rfl (by decide) dX6_goOn_1 ?_
  refine j_lv [1, 2, 3, 0] rfl ?_
  exact J2 NN x1 x2 0 mod_costs mod_next h
theorem c_X6_goOn (l : Launch) (D : va_G) (b : Nat → Nat) (gm : Nat → ClassId) (mod_thrown : Int) (mod_places : Int) (mod_firings : Int) (mod_fired : Int) (mod_logged : Int) (mod_tokens : Nat → Int) (mod_weights : Nat → Int) (mod_logs : Nat → Int) (mod_marks : Nat → Int) (mod_whence : Nat → Int) (mod_by : Nat → Int) (mod_leads : Nat → Int) (mod_comes : Nat → Int) (mod_costs : Nat → Int) (mod_next : Nat → Int) (mod_found : Nat → Int) (x1 : Int) (x2 : Int) (res : (Nat → Int) × (Nat → Int)) (h : F_X6_goOn x1 x2 mod_leads mod_costs mod_next = some res) : Kt l yX6_goOn cX6_goOn 5 none ({ frames := 0, cells := 0, slots := 0, locals := 0 } : Room) D (mT gm) [.ref (b 0), .int (vI x1), .int (vI x2)] (mW b gm mod_thrown mod_places mod_firings mod_fired mod_logged mod_tokens mod_weights mod_logs mod_marks mod_whence mod_by mod_leads mod_comes mod_costs mod_next mod_found) (mW b gm mod_thrown mod_places mod_firings mod_fired mod_logged mod_tokens mod_weights mod_logs mod_marks mod_whence mod_by mod_leads mod_comes res.1 res.2 mod_found) none :=
  kt_v rfl (by decide +kernel) (Nat.le_of_ble_eq_true rfl) (fun C RET => k_X6_goOn C x1 x2 res h RET)
set_option maxRecDepth 100000 in
set_option maxHeartbeats 4000000 in
theorem k_X6_cost {b : Nat → Nat} {gm : Nat → ClassId} {mod_thrown : Int} {mod_places : Int} {mod_firings : Int} {mod_fired : Int} {mod_logged : Int} {mod_tokens : Nat → Int} {mod_weights : Nat → Int} {mod_logs : Nat → Int} {mod_marks : Nat → Int} {mod_whence : Nat → Int} {mod_by : Nat → Int} {mod_leads : Nat → Int} {mod_comes : Nat → Int} {mod_costs : Nat → Int} {mod_next : Nat → Int} {mod_found : Nat → Int} (C : JC p s m args meth c cX6_cost 4 "MarkingHallModel" D (mT gm) A)  (res : Int × (Int) × (Nat → Int) × (Nat → Int) × (Nat → Int) × (Nat → Int) × (Nat → Int) × (Nat → Int)) (h : F_X6_cost mod_places mod_firings mod_logged mod_tokens mod_weights mod_logs mod_thrown mod_marks mod_whence mod_by mod_leads mod_costs mod_next = some res) (RET : ∀ (pc : Nat) (lv : List (Nat × Value)), decode cX6_cost pc = .ok (.ireturn, 1) → J p l e ({ frames := 4, cells := 0, slots := 0, locals := 97 } : Room) s m args below meth c D A 4 Q 0 0 (mW b gm res.2.1 mod_places mod_firings mod_fired mod_logged mod_tokens mod_weights mod_logs res.2.2.1 res.2.2.2.1 res.2.2.2.2.1 res.2.2.2.2.2.1 mod_comes res.2.2.2.2.2.2.1 res.2.2.2.2.2.2.2 mod_found) pc lv [.int (vI res.1)]) : J p l e ({ frames := 4, cells := 0, slots := 0, locals := 97 } : Room) s m args below meth c D A 4 Q 0 0 (mW b gm mod_thrown mod_places mod_firings mod_fired mod_logged mod_tokens mod_weights mod_logs mod_marks mod_whence mod_by mod_leads mod_comes mod_costs mod_next mod_found) 0 [(0, .ref (b 0))] [] := by
  have J92 : ∀ (n : Nat) (l1 : Int) (l2 : Int) (l3 : Int) (mod_thrown : Int) (mod_marks : Nat → Int) (mod_whence : Nat → Int) (mod_by : Nat → Int) (mod_leads : Nat → Int) (mod_costs : Nat → Int) (mod_next : Nat → Int), F_X6_cost_b92 mod_places mod_firings mod_logged mod_tokens mod_weights mod_logs n l1 l2 l3 mod_thrown mod_marks mod_whence mod_by mod_leads mod_costs mod_next = some res → J p l e ({ frames := 4, cells := 0, slots := 0, locals := 97 } : Room) s m args below meth c D A 4 Q 0 0 (mW b gm mod_thrown mod_places mod_firings mod_fired mod_logged mod_tokens mod_weights mod_logs mod_marks mod_whence mod_by mod_leads mod_comes mod_costs mod_next mod_found) 92 [(0, .ref (b 0)), (1, .int (vI l1)), (2, .int (vI l2)), (3, .int (vI l3))] [] := by
    intro n
    induction n with
    | zero => intro l1 l2 l3 mod_thrown mod_marks mod_whence mod_by mod_leads mod_costs mod_next h; exact no_h h
    | succ n ih92 =>
      intro l1 l2 l3 mod_thrown mod_marks mod_whence mod_by mod_leads mod_costs mod_next h
      replace h : F_X6_cost_b92_body mod_places mod_firings mod_logged mod_tokens mod_weights mod_logs (F_X6_cost_b92 mod_places mod_firings mod_logged mod_tokens mod_weights mod_logs n) l1 l2 l3 mod_thrown mod_marks mod_whence mod_by mod_leads mod_costs mod_next = some res := h
      generalize F_X6_cost_b92 mod_places mod_firings mod_logged mod_tokens mod_weights mod_logs n = ag92 at ih92 h
      have J117 : ∀ (l1 : Int) (l3 : Int) (s0 : Int) (mod_thrown : Int) (mod_marks : Nat → Int) (mod_whence : Nat → Int) (mod_by : Nat → Int) (mod_leads : Nat → Int) (mod_costs : Nat → Int) (mod_next : Nat → Int), F_X6_cost_b117 mod_places mod_firings mod_logged mod_tokens mod_weights mod_logs ag92 l1 l3 s0 mod_thrown mod_marks mod_whence mod_by mod_leads mod_costs mod_next = some res → J p l e ({ frames := 4, cells := 0, slots := 0, locals := 97 } : Room) s m args below meth c D A 4 Q 0 0 (mW b gm mod_thrown mod_places mod_firings mod_fired mod_logged mod_tokens mod_weights mod_logs mod_marks mod_whence mod_by mod_leads mod_comes mod_costs mod_next mod_found) 117 [(0, .ref (b 0)), (1, .int (vI l1)), (3, .int (vI l3))] [.int (vI s0)] := by
        intro l1 l3 s0 mod_thrown mod_marks mod_whence mod_by mod_leads mod_costs mod_next h
        unfold F_X6_cost_b117 at h
        refine j_istore_n C [(2, .int (vI s0)), (0, .ref (b 0)), (1, .int (vI l1)), (3, .int (vI l3))] rfl rfl (by decide) dX6_cost_117 ?_
        refine j_iinc C 3 rfl (fun v => [(3, .int (vI v)), (2, .int (vI s0)), (0, .ref (b 0)), (1, .int (vI l1))]) (fun _ => rfl) (by decide) h dX6_cost_118 (fun v1 h => ?_)
        refine j_goto C 92 (by decide) dX6_cost_121 ?_
        refine j_lv [2, 3, 1, 0] rfl ?_
        exact ih92 l1 s0 v1 mod_thrown mod_marks mod_whence mod_by mod_leads mod_costs mod_next h
      unfold F_X6_cost_b92_body at h
      refine j_iload_n C 3 rfl rfl dX6_cost_92 ?_
      refine j_iload_n C 1 rfl rfl dX6_cost_93 ?_
      refine j_icmp_ge C h 124 (by decide) dX6_cost_94 (fun c5 h => ?_) (fun c5 h => ?_)
      · refine j_iload_n C 2 rfl rfl dX6_cost_124 ?_
        cases h
        exact RET _ _ dX6_cost_125
      · refine j_aload_n C 0 rfl rfl dX6_cost_97 ?_
        refine g_X6_35 C (v := .ref (b 9)) 0 rfl rfl dX6_cost_98 ?_
        refine j_iload_n C 3 rfl rfl dX6_cost_101 ?_
        refine j_iald C 9 8 rfl rfl (Nat.le_of_ble_eq_true rfl) h dX6_cost_102 (fun v2 h => ?_)
        refine j_iload_n C 2 rfl rfl dX6_cost_103 ?_
        refine j_icmp_ge C h 116 (by decide) dX6_cost_104 (fun c4 h => ?_) (fun c4 h => ?_)
        · refine j_iload_n C 2 rfl rfl dX6_cost_116 ?_
          refine j_lv [0, 1, 3] rfl ?_
          exact J117 l1 l3 l2 mod_thrown mod_marks mod_whence mod_by mod_leads mod_costs mod_next h
        · refine j_aload_n C 0 rfl rfl dX6_cost_107 ?_
          refine g_X6_35 C (v := .ref (b 9)) 0 rfl rfl dX6_cost_108 ?_
          refine j_iload_n C 3 rfl rfl dX6_cost_111 ?_
          refine j_iald C 9 8 rfl rfl (Nat.le_of_ble_eq_true rfl) h dX6_cost_112 (fun v3 h => ?_)
          refine j_goto C 117 (by decide) dX6_cost_113 ?_
          refine j_lv [0, 1, 3] rfl ?_
          exact J117 l1 l3 v3 mod_thrown mod_marks mod_whence mod_by mod_leads mod_costs mod_next h
  have J89 : ∀ (l1 : Int) (s0 : Int) (mod_thrown : Int) (mod_marks : Nat → Int) (mod_whence : Nat → Int) (mod_by : Nat → Int) (mod_leads : Nat → Int) (mod_costs : Nat → Int) (mod_next : Nat → Int), F_X6_cost_b89 mod_places mod_firings mod_logged mod_tokens mod_weights mod_logs l1 s0 mod_thrown mod_marks mod_whence mod_by mod_leads mod_costs mod_next = some res → J p l e ({ frames := 4, cells := 0, slots := 0, locals := 97 } : Room) s m args below meth c D A 4 Q 0 0 (mW b gm mod_thrown mod_places mod_firings mod_fired mod_logged mod_tokens mod_weights mod_logs mod_marks mod_whence mod_by mod_leads mod_comes mod_costs mod_next mod_found) 89 [(0, .ref (b 0)), (1, .int (vI l1))] [.int (vI s0)] := by
    intro l1 s0 mod_thrown mod_marks mod_whence mod_by mod_leads mod_costs mod_next h
    unfold F_X6_cost_b89 at h
    refine j_istore_n C [(2, .int (vI s0)), (0, .ref (b 0)), (1, .int (vI l1))] rfl rfl (by decide) dX6_cost_89 ?_
    refine j_iconst C dX6_cost_90 ?_
    refine j_istore_n C [(3, .int (vI 0)), (2, .int (vI s0)), (0, .ref (b 0)), (1, .int (vI l1))] rfl rfl (by decide) dX6_cost_91 ?_
    refine j_lv [2, 3, 1, 0] rfl ?_
    exact J92 NN l1 s0 0 mod_thrown mod_marks mod_whence mod_by mod_leads mod_costs mod_next h
  have J77 : ∀ (l1 : Int) (mod_thrown : Int) (mod_marks : Nat → Int) (mod_whence : Nat → Int) (mod_by : Nat → Int) (mod_leads : Nat → Int) (mod_costs : Nat → Int) (mod_next : Nat → Int), F_X6_cost_b77 mod_places mod_firings mod_logged mod_tokens mod_weights mod_logs l1 mod_thrown mod_marks mod_whence mod_by mod_leads mod_costs mod_next = some res → J p l e ({ frames := 4, cells := 0, slots := 0, locals := 97 } : Room) s m args below meth c D A 4 Q 0 0 (mW b gm mod_thrown mod_places mod_firings mod_fired mod_logged mod_tokens mod_weights mod_logs mod_marks mod_whence mod_by mod_leads mod_comes mod_costs mod_next mod_found) 77 [(0, .ref (b 0)), (1, .int (vI l1))] [] := by
    intro l1 mod_thrown mod_marks mod_whence mod_by mod_leads mod_costs mod_next h
    unfold F_X6_cost_b77 at h
    refine j_iload_n C 1 rfl rfl dX6_cost_77 ?_
    refine j_iconst C dX6_cost_78 ?_
    refine j_icmp_ne C h 86 (by decide) dX6_cost_79 (fun c6 h => ?_) (fun c6 h => ?_)
    · refine j_sipush C (by decide) dX6_cost_86 ?_
      exact J89 l1 1000 mod_thrown mod_marks mod_whence mod_by mod_leads mod_costs mod_next h
    · refine j_iconst C dX6_cost_82 ?_
      refine j_goto C 89 (by decide) dX6_cost_83 ?_
      exact J89 l1 (-1) mod_thrown mod_marks mod_whence mod_by mod_leads mod_costs mod_next h
  have J42 : ∀ (n : Nat) (l1 : Int) (l2 : Int) (mod_thrown : Int) (mod_marks : Nat → Int) (mod_whence : Nat → Int) (mod_by : Nat → Int) (mod_leads : Nat → Int) (mod_costs : Nat → Int) (mod_next : Nat → Int), F_X6_cost_b42 mod_places mod_firings mod_logged mod_tokens mod_weights mod_logs n l1 l2 mod_thrown mod_marks mod_whence mod_by mod_leads mod_costs mod_next = some res → J p l e ({ frames := 4, cells := 0, slots := 0, locals := 97 } : Room) s m args below meth c D A 4 Q 0 0 (mW b gm mod_thrown mod_places mod_firings mod_fired mod_logged mod_tokens mod_weights mod_logs mod_marks mod_whence mod_by mod_leads mod_comes mod_costs mod_next mod_found) 42 [(0, .ref (b 0)), (1, .int (vI l1)), (2, .int (vI l2))] [] := by
    intro n
    induction n with
    | zero => intro l1 l2 mod_thrown mod_marks mod_whence mod_by mod_leads mod_costs mod_next h; exact no_h h
    | succ n ih42 =>
      intro l1 l2 mod_thrown mod_marks mod_whence mod_by mod_leads mod_costs mod_next h
      replace h : F_X6_cost_b42_body mod_places mod_firings mod_logged mod_tokens mod_weights mod_logs (F_X6_cost_b42 mod_places mod_firings mod_logged mod_tokens mod_weights mod_logs n) l1 l2 mod_thrown mod_marks mod_whence mod_by mod_leads mod_costs mod_next = some res := h
      generalize F_X6_cost_b42 mod_places mod_firings mod_logged mod_tokens mod_weights mod_logs n = ag42 at ih42 h
      unfold F_X6_cost_b42_body at h
      refine j_iload_n C 2 rfl rfl dX6_cost_42 ?_
      refine j_aload_n C 0 rfl rfl dX6_cost_43 ?_
      refine g_X6_154 C (v := .int (vI mod_logged)) 0 rfl rfl dX6_cost_44 ?_
      refine j_icmp_ge C h 77 (by decide) dX6_cost_47 (fun c12 h => ?_) (fun c12 h => ?_)
      · refine j_lv [0, 1] rfl ?_
        exact J77 l1 mod_thrown mod_marks mod_whence mod_by mod_leads mod_costs mod_next h
      · refine j_iload_n C 1 rfl rfl dX6_cost_50 ?_
        refine j_iconst C dX6_cost_51 ?_
        refine j_icmp_eq C h 77 (by decide) dX6_cost_52 (fun c11 h => ?_) (fun c11 h => ?_)
        · refine j_lv [0, 1] rfl ?_
          exact J77 l1 mod_thrown mod_marks mod_whence mod_by mod_leads mod_costs mod_next h
        · refine j_aload_n C 0 rfl rfl dX6_cost_55 ?_
          refine j_iload_n C 1 rfl rfl dX6_cost_56 ?_
          obtain ⟨r7, hr7, h⟩ := Ob_of h
          refine q_X6_157 C (wc := (mW b gm mod_thrown mod_places mod_firings mod_fired mod_logged mod_tokens mod_weights mod_logs mod_marks mod_whence mod_by mod_leads mod_comes mod_costs mod_next mod_found)) (wc' := (mW b gm mod_thrown mod_places mod_firings mod_fired mod_logged mod_tokens mod_weights mod_logs mod_marks mod_whence mod_by mod_leads mod_comes r7 mod_next mod_found)) (c_X6_goBesides l D b gm mod_thrown mod_places mod_firings mod_fired mod_logged mod_tokens mod_weights mod_logs mod_marks mod_whence mod_by mod_leads mod_comes mod_costs mod_next mod_found l1 r7 hr7) ⟨(Nat.le_of_ble_eq_true rfl), (Nat.le_of_ble_eq_true rfl)⟩ rfl rfl 0 rfl rfl (ww _) (ww _) mW_ha C.2.2.2.2.2.2.1 (Nat.le_of_ble_eq_true rfl) rfl rfl (Nat.zero_le _) (Nat.zero_le _) dX6_cost_57 ?_
          refine j_aload_n C 0 rfl rfl dX6_cost_60 ?_
          refine j_iload_n C 1 rfl rfl dX6_cost_61 ?_
          refine j_aload_n C 0 rfl rfl dX6_cost_62 ?_
          refine g_X6_16 C (v := .ref (b 3)) 0 rfl rfl dX6_cost_63 ?_
          refine j_iload_n C 2 rfl rfl dX6_cost_66 ?_
          refine j_iald C 3 2 rfl rfl (Nat.le_of_ble_eq_true rfl) h dX6_cost_67 (fun v8 h => ?_)
          obtain ⟨r9, hr9, h⟩ := Ob_of h
          refine q_X6_160 C (wc := (mW b gm mod_thrown mod_places mod_firings mod_fired mod_logged mod_tokens mod_weights mod_logs mod_marks mod_whence mod_by mod_leads mod_comes r7 mod_next mod_found)) (wc' := (mW b gm mod_thrown mod_places mod_firings mod_fired mod_logged mod_tokens mod_weights mod_logs mod_marks mod_whence mod_by mod_leads mod_comes r9.1 r9.2 mod_found)) (c_X6_goOn l D b gm mod_thrown mod_places mod_firings mod_fired mod_logged mod_tokens mod_weights mod_logs mod_marks mod_whence mod_by mod_leads mod_comes r7 mod_next mod_found l1 v8 r9 hr9) ⟨(Nat.le_of_ble_eq_true rfl), (Nat.le_of_ble_eq_true rfl)⟩ rfl rfl 0 rfl rfl (ww _) (ww _) mW_ha C.2.2.2.2.2.2.1 (Nat.le_of_ble_eq_true rfl) rfl rfl (Nat.zero_le _) (Nat.zero_le _) dX6_cost_68 ?_
          refine j_iinc C 2 rfl (fun v => [(2, .int (vI v)), (0, .ref (b 0)), (1, .int (vI l1))]) (fun _ => rfl) (by decide) h dX6_cost_71 (fun v10 h => ?_)
          refine j_goto C 42 (by decide) dX6_cost_74 ?_
          refine j_lv [1, 2, 0] rfl ?_
          exact ih42 l1 v10 mod_thrown mod_marks mod_whence mod_by mod_leads r9.1 r9.2 h
  have J12 : ∀ (n : Nat) (l1 : Int) (l2 : Int) (mod_thrown : Int) (mod_marks : Nat → Int) (mod_whence : Nat → Int) (mod_by : Nat → Int) (mod_leads : Nat → Int) (mod_costs : Nat → Int) (mod_next : Nat → Int), F_X6_cost_b12 mod_places mod_firings mod_logged mod_tokens mod_weights mod_logs n l1 l2 mod_thrown mod_marks mod_whence mod_by mod_leads mod_costs mod_next = some res → J p l e ({ frames := 4, cells := 0, slots := 0, locals := 97 } : Room) s m args below meth c D A 4 Q 0 0 (mW b gm mod_thrown mod_places mod_firings mod_fired mod_logged mod_tokens mod_weights mod_logs mod_marks mod_whence mod_by mod_leads mod_comes mod_costs mod_next mod_found) 12 [(0, .ref (b 0)), (1, .int (vI l1)), (2, .int (vI l2))] [] := by
    intro n
    induction n with
    | zero => intro l1 l2 mod_thrown mod_marks mod_whence mod_by mod_leads mod_costs mod_next h; exact no_h h
    | succ n ih12 =>
      intro l1 l2 mod_thrown mod_marks mod_whence mod_by mod_leads mod_costs mod_next h
      replace h : F_X6_cost_b12_body mod_places mod_firings mod_logged mod_tokens mod_weights mod_logs (F_X6_cost_b12 mod_places mod_firings mod_logged mod_tokens mod_weights mod_logs n) l1 l2 mod_thrown mod_marks mod_whence mod_by mod_leads mod_costs mod_next = some res := h
      generalize F_X6_cost_b12 mod_places mod_firings mod_logged mod_tokens mod_weights mod_logs n = ag12 at ih12 h
      have J33 : ∀ (l1 : Int) (l2 : Int) (s1 : Int) (s2 : Int) (mod_thrown : Int) (mod_marks : Nat → Int) (mod_whence : Nat → Int) (mod_by : Nat → Int) (mod_leads : Nat → Int) (mod_costs : Nat → Int) (mod_next : Nat → Int), F_X6_cost_b33 mod_places mod_firings mod_logged mod_tokens mod_weights mod_logs ag12 l1 l2 s1 s2 mod_thrown mod_marks mod_whence mod_by mod_leads mod_costs mod_next = some res → J p l e ({ frames := 4, cells := 0, slots := 0, locals := 97 } : Room) s m args below meth c D A 4 Q 0 0 (mW b gm mod_thrown mod_places mod_firings mod_fired mod_logged mod_tokens mod_weights mod_logs mod_marks mod_whence mod_by mod_leads mod_comes mod_costs mod_next mod_found) 33 [(0, .ref (b 0)), (1, .int (vI l1)), (2, .int (vI l2))] [.int (vI s2), .int (vI s1), .ref (b 9)] := by
        intro l1 l2 s1 s2 mod_thrown mod_marks mod_whence mod_by mod_leads mod_costs mod_next h
        unfold F_X6_cost_b33 at h
        refine j_iast C 9 8 rfl rfl (Nat.le_of_ble_eq_true rfl) (fun f' => (mW b gm mod_thrown mod_places mod_firings mod_fired mod_logged mod_tokens mod_weights mod_logs mod_marks mod_whence mod_by mod_leads mod_comes f' mod_next mod_found)) (fun _ => rfl) h dX6_cost_33 (fun f13 h => ?_)
        refine j_iinc C 2 rfl (fun v => [(2, .int (vI v)), (0, .ref (b 0)), (1, .int (vI l1))]) (fun _ => rfl) (by decide) h dX6_cost_34 (fun v14 h => ?_)
        refine j_goto C 12 (by decide) dX6_cost_37 ?_
        refine j_lv [1, 2, 0] rfl ?_
        exact ih12 l1 v14 mod_thrown mod_marks mod_whence mod_by mod_leads f13 mod_next h
      unfold F_X6_cost_b12_body at h
      refine j_iload_n C 2 rfl rfl dX6_cost_12 ?_
      refine j_iload_n C 1 rfl rfl dX6_cost_13 ?_
      refine j_icmp_ge C h 40 (by decide) dX6_cost_14 (fun c16 h => ?_) (fun c16 h => ?_)
      · refine j_iconst C dX6_cost_40 ?_
        refine j_istore_n C [(2, .int (vI 0)), (0, .ref (b 0)), (1, .int (vI l1))] rfl rfl (by decide) dX6_cost_41 ?_
        refine j_lv [1, 2, 0] rfl ?_
        exact J42 NN l1 0 mod_thrown mod_marks mod_whence mod_by mod_leads mod_costs mod_next h
      · refine j_aload_n C 0 rfl rfl dX6_cost_17 ?_
        refine g_X6_35 C (v := .ref (b 9)) 0 rfl rfl dX6_cost_18 ?_
        refine j_iload_n C 2 rfl rfl dX6_cost_21 ?_
        refine j_iload_n C 2 rfl rfl dX6_cost_22 ?_
        refine j_if_ne C h 30 (by decide) dX6_cost_23 (fun c15 h => ?_) (fun c15 h => ?_)
        · refine j_sipush C (by decide) dX6_cost_30 ?_
          exact J33 l1 l2 l2 1000 mod_thrown mod_marks mod_whence mod_by mod_leads mod_costs mod_next h
        · refine j_iconst C dX6_cost_26 ?_
          refine j_goto C 33 (by decide) dX6_cost_27 ?_
          exact J33 l1 l2 l2 0 mod_thrown mod_marks mod_whence mod_by mod_leads mod_costs mod_next h
  unfold F_X6_cost at h
  refine j_aload_n C 0 rfl rfl dX6_cost_0 ?_
  refine j_iconst C dX6_cost_1 ?_
  refine p_X6_44 C 0 rfl (Nat.le_of_ble_eq_true rfl) (mW b gm 0 mod_places mod_firings mod_fired mod_logged mod_tokens mod_weights mod_logs mod_marks mod_whence mod_by mod_leads mod_comes mod_costs mod_next mod_found) rfl dX6_cost_2 ?_
  refine j_aload_n C 0 rfl rfl dX6_cost_5 ?_
  obtain ⟨r17, hr17, h⟩ := Ob_of h
  refine q_X6_91 C (wc := (mW b gm 0 mod_places mod_firings mod_fired mod_logged mod_tokens mod_weights mod_logs mod_marks mod_whence mod_by mod_leads mod_comes mod_costs mod_next mod_found)) (wc' := (mW b gm 0 mod_places mod_firings mod_fired mod_logged mod_tokens mod_weights mod_logs r17.2.1 r17.2.2.1 r17.2.2.2.1 r17.2.2.2.2 mod_comes mod_costs mod_next mod_found)) (c_X6_findAll l D b gm 0 mod_places mod_firings mod_fired mod_logged mod_tokens mod_weights mod_logs mod_marks mod_whence mod_by mod_leads mod_comes mod_costs mod_next mod_found r17 hr17) ⟨(Nat.le_of_ble_eq_true rfl), (Nat.le_of_ble_eq_true rfl)⟩ rfl rfl 0 rfl rfl (ww _) (ww _) mW_ha C.2.2.2.2.2.2.1 (Nat.le_of_ble_eq_true rfl) rfl rfl (Nat.zero_le _) (Nat.zero_le _) dX6_cost_6 ?_
  refine j_istore_n C [(1, .int (vI r17.1)), (0, .ref (b 0))] rfl rfl (by decide) dX6_cost_9 ?_
  refine j_iconst C dX6_cost_10 ?_
  refine j_istore_n C [(2, .int (vI 0)), (1, .int (vI r17.1)), (0, .ref (b 0))] rfl rfl (by decide) dX6_cost_11 ?_
  refine j_lv [2, 1, 0] rfl ?_
  exact J12 NN r17.1 0 0 r17.2.1 r17.2.2.1 r17.2.2.2.1 r17.2.2.2.2 mod_costs mod_next h
theorem c_X6_cost (l : Launch) (D : va_G) (b : Nat → Nat) (gm : Nat → ClassId) (mod_thrown : Int) (mod_places : Int) (mod_firings : Int) (mod_fired : Int) (mod_logged : Int) (mod_tokens : Nat → Int) (mod_weights : Nat → Int) (mod_logs : Nat → Int) (mod_marks : Nat → Int) (mod_whence : Nat → Int) (mod_by : Nat → Int) (mod_leads : Nat → Int) (mod_comes : Nat → Int) (mod_costs : Nat → Int) (mod_next : Nat → Int) (mod_found : Nat → Int)  (res : Int × (Int) × (Nat → Int) × (Nat → Int) × (Nat → Int) × (Nat → Int) × (Nat → Int) × (Nat → Int)) (h : F_X6_cost mod_places mod_firings mod_logged mod_tokens mod_weights mod_logs mod_thrown mod_marks mod_whence mod_by mod_leads mod_costs mod_next = some res) : Kt l yX6_cost cX6_cost 4 (some .int) ({ frames := 4, cells := 0, slots := 0, locals := 97 } : Room) D (mT gm) [.ref (b 0)] (mW b gm mod_thrown mod_places mod_firings mod_fired mod_logged mod_tokens mod_weights mod_logs mod_marks mod_whence mod_by mod_leads mod_comes mod_costs mod_next mod_found) (mW b gm res.2.1 mod_places mod_firings mod_fired mod_logged mod_tokens mod_weights mod_logs res.2.2.1 res.2.2.2.1 res.2.2.2.2.1 res.2.2.2.2.2.1 mod_comes res.2.2.2.2.2.2.1 res.2.2.2.2.2.2.2 mod_found) (some (.int (vI res.1))) :=
  kt_i (ty := .int) rfl rfl (by decide +kernel) (Nat.le_of_ble_eq_true rfl) (fun C RET => k_X6_cost C res h RET)
end WK
