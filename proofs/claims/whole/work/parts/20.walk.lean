section WK
variable {p : Program} {l : Launch} {e : Env} {s : State} {m : MethodId} {args : Array Value} {below : List Frame} {meth : Method} {c : Code} {D : va_G} {A : Nat → Prop} {Q : State → Prop}
set_option maxRecDepth 100000 in
set_option maxHeartbeats 4000000 in
theorem k_X6_tokens {b : Nat → Nat} {gm : Nat → ClassId} {mod_thrown : Int} {mod_places : Int} {mod_firings : Int} {mod_fired : Int} {mod_logged : Int} {mod_tokens : Nat → Int} {mod_weights : Nat → Int} {mod_logs : Nat → Int} {mod_marks : Nat → Int} {mod_whence : Nat → Int} {mod_by : Nat → Int} {mod_leads : Nat → Int} {mod_comes : Nat → Int} {mod_costs : Nat → Int} {mod_next : Nat → Int} {mod_found : Nat → Int} (C : JC p s m args meth c cX6_tokens 2 "MarkingHallModel" D (mT gm) A) (x1 : Int) (res : Int × (Int)) (h : F_X6_tokens x1 mod_places mod_tokens mod_thrown = some res) (RET : ∀ (pc : Nat) (lv : List (Nat × Value)), decode cX6_tokens pc = .ok (.ireturn, 1) → J p l e ({ frames := 2, cells := 0, slots := 0, locals := 43 } : Room) s m args below meth c D A 2 Q 0 0 (mW b gm res.2 mod_places mod_firings mod_fired mod_logged mod_tokens mod_weights mod_logs mod_marks mod_whence mod_by mod_leads mod_comes mod_costs mod_next mod_found) pc lv [.int (vI res.1)]) : J p l e ({ frames := 2, cells := 0, slots := 0, locals := 43 } : Room) s m args below meth c D A 2 Q 0 0 (mW b gm mod_thrown mod_places mod_firings mod_fired mod_logged mod_tokens mod_weights mod_logs mod_marks mod_whence mod_by mod_leads mod_comes mod_costs mod_next mod_found) 0 [(0, .ref (b 0)), (1, .int (vI x1))] [] := by
  have J14 : ∀ (l1 : Int) (s1 : Int) (mod_thrown : Int), F_X6_tokens_b14 mod_places mod_tokens l1 s1 mod_thrown = some res → J p l e ({ frames := 2, cells := 0, slots := 0, locals := 43 } : Room) s m args below meth c D A 2 Q 0 0 (mW b gm mod_thrown mod_places mod_firings mod_fired mod_logged mod_tokens mod_weights mod_logs mod_marks mod_whence mod_by mod_leads mod_comes mod_costs mod_next mod_found) 14 [(0, .ref (b 0)), (1, .int (vI l1))] [.int (vI s1), .ref (b 0)] := by
    intro l1 s1 mod_thrown h
    unfold F_X6_tokens_b14 at h
    obtain ⟨r1, hr1, h⟩ := Ob_of h
    refine q_X6_58 C (wc := (mW b gm mod_thrown mod_places mod_firings mod_fired mod_logged mod_tokens mod_weights mod_logs mod_marks mod_whence mod_by mod_leads mod_comes mod_costs mod_next mod_found)) (wc' := (mW b gm r1.2 mod_places mod_firings mod_fired mod_logged mod_tokens mod_weights mod_logs mod_marks mod_whence mod_by mod_leads mod_comes mod_costs mod_next mod_found)) (c_X6_goesWell l D b gm mod_thrown mod_places mod_firings mod_fired mod_logged mod_tokens mod_weights mod_logs mod_marks mod_whence mod_by mod_leads mod_comes mod_costs mod_next mod_found s1 r1 hr1) ⟨(Nat.le_of_ble_eq_true rfl), (Nat.le_of_ble_eq_true rfl)⟩ rfl rfl 0 rfl rfl (ww _) (ww _) mW_ha C.2.2.2.2.2.2.1 (Nat.le_of_ble_eq_true rfl) rfl rfl (Nat.zero_le _) (Nat.zero_le _) dX6_tokens_14 ?_
    refine j_if_eq C h 29 (by decide) dX6_tokens_17 (fun c3 h => ?_) (fun c3 h => ?_)
    · refine j_iconst C dX6_tokens_29 ?_
      cases h
      exact RET _ _ dX6_tokens_30
    · refine j_aload_n C 0 rfl rfl dX6_tokens_20 ?_
      refine g_X6_7 C (v := .ref (b 1)) 0 rfl rfl dX6_tokens_21 ?_
      refine j_iload_n C 1 rfl rfl dX6_tokens_24 ?_
      refine j_iald C 1 0 rfl rfl (Nat.le_of_ble_eq_true rfl) h dX6_tokens_25 (fun v2 h => ?_)
      refine j_goto C 30 (by decide) dX6_tokens_26 ?_
      cases h
      exact RET _ _ dX6_tokens_30
  unfold F_X6_tokens at h
  refine j_aload_n C 0 rfl rfl dX6_tokens_0 ?_
  refine j_aload_n C 0 rfl rfl dX6_tokens_1 ?_
  refine j_iload_n C 1 rfl rfl dX6_tokens_2 ?_
  obtain ⟨r4, hr4, h⟩ := Ob_of h
  refine q_X6_65 C (wc := (mW b gm mod_thrown mod_places mod_firings mod_fired mod_logged mod_tokens mod_weights mod_logs mod_marks mod_whence mod_by mod_leads mod_comes mod_costs mod_next mod_found)) (wc' := (mW b gm mod_thrown mod_places mod_firings mod_fired mod_logged mod_tokens mod_weights mod_logs mod_marks mod_whence mod_by mod_leads mod_comes mod_costs mod_next mod_found)) (c_X6_isPlace l D b gm mod_thrown mod_places mod_firings mod_fired mod_logged mod_tokens mod_weights mod_logs mod_marks mod_whence mod_by mod_leads mod_comes mod_costs mod_next mod_found x1 r4 hr4) ⟨(Nat.le_of_ble_eq_true rfl), (Nat.le_of_ble_eq_true rfl)⟩ rfl rfl 0 rfl rfl (ww _) (ww _) rfl C.2.2.2.2.2.2.1 (Nat.le_of_ble_eq_true rfl) rfl rfl (Nat.zero_le _) (Nat.zero_le _) dX6_tokens_3 ?_
  refine j_if_eq C h 13 (by decide) dX6_tokens_6 (fun c5 h => ?_) (fun c5 h => ?_)
  · refine j_iconst C dX6_tokens_13 ?_
    exact J14 x1 1 mod_thrown h
  · refine j_iconst C dX6_tokens_9 ?_
    refine j_goto C 14 (by decide) dX6_tokens_10 ?_
    exact J14 x1 0 mod_thrown h
theorem c_X6_tokens (l : Launch) (D : va_G) (b : Nat → Nat) (gm : Nat → ClassId) (mod_thrown : Int) (mod_places : Int) (mod_firings : Int) (mod_fired : Int) (mod_logged : Int) (mod_tokens : Nat → Int) (mod_weights : Nat → Int) (mod_logs : Nat → Int) (mod_marks : Nat → Int) (mod_whence : Nat → Int) (mod_by : Nat → Int) (mod_leads : Nat → Int) (mod_comes : Nat → Int) (mod_costs : Nat → Int) (mod_next : Nat → Int) (mod_found : Nat → Int) (x1 : Int) (res : Int × (Int)) (h : F_X6_tokens x1 mod_places mod_tokens mod_thrown = some res) : Kt l yX6_tokens cX6_tokens 2 (some .int) ({ frames := 2, cells := 0, slots := 0, locals := 43 } : Room) D (mT gm) [.ref (b 0), .int (vI x1)] (mW b gm mod_thrown mod_places mod_firings mod_fired mod_logged mod_tokens mod_weights mod_logs mod_marks mod_whence mod_by mod_leads mod_comes mod_costs mod_next mod_found) (mW b gm res.2 mod_places mod_firings mod_fired mod_logged mod_tokens mod_weights mod_logs mod_marks mod_whence mod_by mod_leads mod_comes mod_costs mod_next mod_found) (some (.int (vI res.1))) :=
  kt_i (ty := .int) rfl rfl (by decide +kernel) (Nat.le_of_ble_eq_true rfl) (fun C RET => k_X6_tokens C x1 res h RET)
set_option maxRecDepth 100000 in
set_option maxHeartbeats 4000000 in
theorem k_X6_after {b : Nat → Nat} {gm : Nat → ClassId} {mod_thrown : Int} {mod_places : Int} {mod_firings : Int} {mod_fired : Int} {mod_logged : Int} {mod_tokens : Nat → Int} {mod_weights : Nat → Int} {mod_logs : Nat → Int} {mod_marks : Nat → Int} {mod_whence : Nat → Int} {mod_by : Nat → Int} {mod_leads : Nat → Int} {mod_comes : Nat → Int} {mod_costs : Nat → Int} {mod_next : Nat → Int} {mod_found : Nat → Int} (C : JC p s m args meth c cX6_after 4 "MarkingHallModel" D (mT gm) A) (x1 : Int) (x2 : Int) (x3 : Int) (res : Int) (h : F_X6_after x1 x2 x3 mod_weights = some res) (RET : ∀ (pc : Nat) (lv : List (Nat × Value)), decode cX6_after pc = .ok (.ireturn, 1) → J p l e ({ frames := 1, cells := 0, slots := 0, locals := 23 } : Room) s m args below meth c D A 4 Q 0 0 (mW b gm mod_thrown mod_places mod_firings mod_fired mod_logged mod_tokens mod_weights mod_logs mod_marks mod_whence mod_by mod_leads mod_comes mod_costs mod_next mod_found) pc lv [.int (vI res)]) : J p l e ({ frames := 1, cells := 0, slots := 0, locals := 23 } : Room) s m args below meth c D A 4 Q 0 0 (mW b gm mod_thrown mod_places mod_firings mod_fired mod_logged mod_tokens mod_weights mod_logs mod_marks mod_whence mod_by mod_leads mod_comes mod_costs mod_next mod_found) 0 [(0, .ref (b 0)), (1, .int (vI x1)), (2, .int (vI x2)), (3, .int (vI x3))] [] := by
  have J24 : ∀ (l2 : Int) (l3 : Int) (s0 : Int), F_X6_after_b24 mod_weights l2 l3 s0 = some res → J p l e ({ frames := 1, cells := 0, slots := 0, locals := 23 } : Room) s m args below meth c D A 4 Q 0 0 (mW b gm mod_thrown mod_places mod_firings mod_fired mod_logged mod_tokens mod_weights mod_logs mod_marks mod_whence mod_by mod_leads mod_comes mod_costs mod_next mod_found) 24 [(0, .ref (b 0)), (2, .int (vI l2)), (3, .int (vI l3))] [.int (vI s0)] := by
    intro l2 l3 s0 h
    unfold F_X6_after_b24 at h
    refine j_aload_n C 0 rfl rfl dX6_after_24 ?_
    refine j_iconst C dX6_after_25 ?_
    refine j_iload_n C 1 rfl rfl dX6_after_26 ?_
    refine j_iload_n C 2 rfl rfl dX6_after_27 ?_
    obtain ⟨r1, hr1, h⟩ := Ob_of h
    refine q_X6_68 C (wc := (mW b gm mod_thrown mod_places mod_firings mod_fired mod_logged mod_tokens mod_weights mod_logs mod_marks mod_whence mod_by mod_leads mod_comes mod_costs mod_next mod_found)) (wc' := (mW b gm mod_thrown mod_places mod_firings mod_fired mod_logged mod_tokens mod_weights mod_logs mod_marks mod_whence mod_by mod_leads mod_comes mod_costs mod_next mod_found)) (c_X6_weight l D b gm mod_thrown mod_places mod_firings mod_fired mod_logged mod_tokens mod_weights mod_logs mod_marks mod_whence mod_by mod_leads mod_comes mod_costs mod_next mod_found 1 l2 l3 r1 hr1) ⟨(Nat.le_of_ble_eq_true rfl), (Nat.le_of_ble_eq_true rfl)⟩ rfl rfl 0 rfl rfl (ww _) (ww _) rfl C.2.2.2.2.2.2.1 (Nat.le_of_ble_eq_true rfl) rfl rfl (Nat.zero_le _) (Nat.zero_le _) dX6_after_28 ?_
    refine j_iadd C dX6_after_31 ?_
    cases h
    exact RET _ _ dX6_after_32
  unfold F_X6_after at h
  refine j_aload_n C 0 rfl rfl dX6_after_0 ?_
  refine j_iconst C dX6_after_1 ?_
  refine j_iload_n C 2 rfl rfl dX6_after_2 ?_
  refine j_iload_n C 3 rfl rfl dX6_after_3 ?_
  obtain ⟨r2, hr2, h⟩ := Ob_of h
  refine q_X6_68 C (wc := (mW b gm mod_thrown mod_places mod_firings mod_fired mod_logged mod_tokens mod_weights mod_logs mod_marks mod_whence mod_by mod_leads mod_comes mod_costs mod_next mod_found)) (wc' := (mW b gm mod_thrown mod_places mod_firings mod_fired mod_logged mod_tokens mod_weights mod_logs mod_marks mod_whence mod_by mod_leads mod_comes mod_costs mod_next mod_found)) (c_X6_weight l D b gm mod_thrown mod_places mod_firings mod_fired mod_logged mod_tokens mod_weights mod_logs mod_marks mod_whence mod_by mod_leads mod_comes mod_costs mod_next mod_found 4 x2 x3 r2 hr2) ⟨(Nat.le_of_ble_eq_true rfl), (Nat.le_of_ble_eq_true rfl)⟩ rfl rfl 0 rfl rfl (ww _) (ww _) rfl C.2.2.2.2.2.2.1 (Nat.le_of_ble_eq_true rfl) rfl rfl (Nat.zero_le _) (Nat.zero_le _) dX6_after_4 ?_
  refine j_iconst C dX6_after_7 ?_
  refine j_icmp_ne C h 15 (by decide) dX6_after_8 (fun c4 h => ?_) (fun c4 h => ?_)
  · refine j_iload_n C 1 rfl rfl dX6_after_15 ?_
    refine j_aload_n C 0 rfl rfl dX6_after_16 ?_
    refine j_iconst C dX6_after_17 ?_
    refine j_iload_n C 2 rfl rfl dX6_after_18 ?_
    refine j_iload_n C 3 rfl rfl dX6_after_19 ?_
    obtain ⟨r3, hr3, h⟩ := Ob_of h
    refine q_X6_68 C (wc := (mW b gm mod_thrown mod_places mod_firings mod_fired mod_logged mod_tokens mod_weights mod_logs mod_marks mod_whence mod_by mod_leads mod_comes mod_costs mod_next mod_found)) (wc' := (mW b gm mod_thrown mod_places mod_firings mod_fired mod_logged mod_tokens mod_weights mod_logs mod_marks mod_whence mod_by mod_leads mod_comes mod_costs mod_next mod_found)) (c_X6_weight l D b gm mod_thrown mod_places mod_firings mod_fired mod_logged mod_tokens mod_weights mod_logs mod_marks mod_whence mod_by mod_leads mod_comes mod_costs mod_next mod_found 0 x2 x3 r3 hr3) ⟨(Nat.le_of_ble_eq_true rfl), (Nat.le_of_ble_eq_true rfl)⟩ rfl rfl 0 rfl rfl (ww _) (ww _) rfl C.2.2.2.2.2.2.1 (Nat.le_of_ble_eq_true rfl) rfl rfl (Nat.zero_le _) (Nat.zero_le _) dX6_after_20 ?_
    refine j_isub C dX6_after_23 ?_
    refine j_lv [0, 2, 3] rfl ?_
    exact J24 x2 x3 (x1 - r3) h
  · refine j_iconst C dX6_after_11 ?_
    refine j_goto C 24 (by decide) dX6_after_12 ?_
    refine j_lv [0, 2, 3] rfl ?_
    exact J24 x2 x3 0 h
theorem c_X6_after (l : Launch) (D : va_G) (b : Nat → Nat) (gm : Nat → ClassId) (mod_thrown : Int) (mod_places : Int) (mod_firings : Int) (mod_fired : Int) (mod_logged : Int) (mod_tokens : Nat → Int) (mod_weights : Nat → Int) (mod_logs : Nat → Int) (mod_marks : Nat → Int) (mod_whence : Nat → Int) (mod_by : Nat → Int) (mod_leads : Nat → Int) (mod_comes : Nat → Int) (mod_costs : Nat → Int) (mod_next : Nat → Int) (mod_found : Nat → Int) (x1 : Int) (x2 : Int) (x3 : Int) (res : Int) (h : F_X6_after x1 x2 x3 mod_weights = some res) : Kt l yX6_after cX6_after 4 (some .int) ({ frames := 1, cells := 0, slots := 0, locals := 23 } : Room) D (mT gm) [.ref (b 0), .int (vI x1), .int (vI x2), .int (vI x3)] (mW b gm mod_thrown mod_places mod_firings mod_fired mod_logged mod_tokens mod_weights mod_logs mod_marks mod_whence mod_by mod_leads mod_comes mod_costs mod_next mod_found) (mW b gm mod_thrown mod_places mod_firings mod_fired mod_logged mod_tokens mod_weights mod_logs mod_marks mod_whence mod_by mod_leads mod_comes mod_costs mod_next mod_found) (some (.int (vI res))) :=
  kt_i (ty := .int) rfl rfl (by decide +kernel) (Nat.le_of_ble_eq_true rfl) (fun C RET => k_X6_after C x1 x2 x3 res h RET)
set_option maxRecDepth 100000 in
set_option maxHeartbeats 4000000 in
theorem k_X6_canIn {b : Nat → Nat} {gm : Nat → ClassId} {mod_thrown : Int} {mod_places : Int} {mod_firings : Int} {mod_fired : Int} {mod_logged : Int} {mod_tokens : Nat → Int} {mod_weights : Nat → Int} {mod_logs : Nat → Int} {mod_marks : Nat → Int} {mod_whence : Nat → Int} {mod_by : Nat → Int} {mod_leads : Nat → Int} {mod_comes : Nat → Int} {mod_costs : Nat → Int} {mod_next : Nat → Int} {mod_found : Nat → Int} (C : JC p s m args meth c cX6_canIn 7 "MarkingHallModel" D (mT gm) A) (x1 : Int) (x2 : Int) (res : Int) (h : F_X6_canIn x1 x2 mod_places mod_weights mod_marks = some res) (RET : ∀ (pc : Nat) (lv : List (Nat × Value)), (res = 0 ∨ res = 1) → decode cX6_canIn pc = .ok (.ireturn, 1) → J p l e ({ frames := 2, cells := 0, slots := 0, locals := 46 } : Room) s m args below meth c D A 7 Q 0 0 (mW b gm mod_thrown mod_places mod_firings mod_fired mod_logged mod_tokens mod_weights mod_logs mod_marks mod_whence mod_by mod_leads mod_comes mod_costs mod_next mod_found) pc lv [.int (vI res)]) : J p l e ({ frames := 2, cells := 0, slots := 0, locals := 46 } : Room) s m args below meth c D A 7 Q 0 0 (mW b gm mod_thrown mod_places mod_firings mod_fired mod_logged mod_tokens mod_weights mod_logs mod_marks mod_whence mod_by mod_leads mod_comes mod_costs mod_next mod_found) 0 [(0, .ref (b 0)), (1, .int (vI x1)), (2, .int (vI x2))] [] := by
  have J5 : ∀ (n : Nat) (l1 : Int) (l2 : Int) (l3 : Int) (l4 : Int), F_X6_canIn_b5 mod_places mod_weights mod_marks n l1 l2 l3 l4 = some res → J p l e ({ frames := 2, cells := 0, slots := 0, locals := 46 } : Room) s m args below meth c D A 7 Q 0 0 (mW b gm mod_thrown mod_places mod_firings mod_fired mod_logged mod_tokens mod_weights mod_logs mod_marks mod_whence mod_by mod_leads mod_comes mod_costs mod_next mod_found) 5 [(0, .ref (b 0)), (1, .int (vI l1)), (2, .int (vI l2)), (3, .int (vI l3)), (4, .int (vI l4))] [] := by
    intro n
    induction n with
    | zero => intro l1 l2 l3 l4 h; exact no_h h
    | succ n ih5 =>
      intro l1 l2 l3 l4 h
      replace h : F_X6_canIn_b5_body mod_places mod_weights mod_marks (F_X6_canIn_b5 mod_places mod_weights mod_marks n) l1 l2 l3 l4 = some res := h
      generalize F_X6_canIn_b5 mod_places mod_weights mod_marks n = ag5 at ih5 h
      have J99 : ∀ (l1 : Int) (l2 : Int) (l4 : Int) (s0 : Int), F_X6_canIn_b99 mod_places mod_weights mod_marks ag5 l1 l2 l4 s0 = some res → J p l e ({ frames := 2, cells := 0, slots := 0, locals := 46 } : Room) s m args below meth c D A 7 Q 0 0 (mW b gm mod_thrown mod_places mod_firings mod_fired mod_logged mod_tokens mod_weights mod_logs mod_marks mod_whence mod_by mod_leads mod_comes mod_costs mod_next mod_found) 99 [(0, .ref (b 0)), (1, .int (vI l1)), (2, .int (vI l2)), (4, .int (vI l4))] [.int (vI s0)] := by
        intro l1 l2 l4 s0 h
        unfold F_X6_canIn_b99 at h
        refine j_istore_n C [(3, .int (vI s0)), (0, .ref (b 0)), (1, .int (vI l1)), (2, .int (vI l2)), (4, .int (vI l4))] rfl rfl (by decide) dX6_canIn_99 ?_
        refine j_iinc C 4 rfl (fun v => [(4, .int (vI v)), (3, .int (vI s0)), (0, .ref (b 0)), (1, .int (vI l1)), (2, .int (vI l2))]) (fun _ => rfl) (by decide) h dX6_canIn_100 (fun v1 h => ?_)
        refine j_goto C 5 (by decide) dX6_canIn_103 ?_
        refine j_lv [2, 3, 4, 1, 0] rfl ?_
        exact ih5 l1 l2 s0 v1 h
      have J98 : ∀ (l1 : Int) (l2 : Int) (l4 : Int), F_X6_canIn_b98 mod_places mod_weights mod_marks ag5 l1 l2 l4 = some res → J p l e ({ frames := 2, cells := 0, slots := 0, locals := 46 } : Room) s m args below meth c D A 7 Q 0 0 (mW b gm mod_thrown mod_places mod_firings mod_fired mod_logged mod_tokens mod_weights mod_logs mod_marks mod_whence mod_by mod_leads mod_comes mod_costs mod_next mod_found) 98 [(0, .ref (b 0)), (1, .int (vI l1)), (2, .int (vI l2)), (4, .int (vI l4))] [] := by
        intro l1 l2 l4 h
        unfold F_X6_canIn_b98 at h
        refine j_iconst C dX6_canIn_98 ?_
        exact J99 l1 l2 l4 0 h
      have J80 : ∀ (l1 : Int) (l2 : Int) (l4 : Int) (l5 : Int), F_X6_canIn_b80 mod_places mod_weights mod_marks ag5 l1 l2 l4 l5 = some res → J p l e ({ frames := 2, cells := 0, slots := 0, locals := 46 } : Room) s m args below meth c D A 7 Q 0 0 (mW b gm mod_thrown mod_places mod_firings mod_fired mod_logged mod_tokens mod_weights mod_logs mod_marks mod_whence mod_by mod_leads mod_comes mod_costs mod_next mod_found) 80 [(0, .ref (b 0)), (1, .int (vI l1)), (2, .int (vI l2)), (4, .int (vI l4)), (5, .int (vI l5))] [] := by
        intro l1 l2 l4 l5 h
        unfold F_X6_canIn_b80 at h
        refine j_aload_n C 0 rfl rfl dX6_canIn_80 ?_
        refine j_iload C 4 rfl dX6_canIn_81 ?_
        refine j_iload_n C 2 rfl rfl dX6_canIn_83 ?_
        refine j_iload C 3 rfl dX6_canIn_84 ?_
        obtain ⟨r2, hr2, h⟩ := Ob_of h
        refine q_X6_72 C (wc := (mW b gm mod_thrown mod_places mod_firings mod_fired mod_logged mod_tokens mod_weights mod_logs mod_marks mod_whence mod_by mod_leads mod_comes mod_costs mod_next mod_found)) (wc' := (mW b gm mod_thrown mod_places mod_firings mod_fired mod_logged mod_tokens mod_weights mod_logs mod_marks mod_whence mod_by mod_leads mod_comes mod_costs mod_next mod_found)) (c_X6_after l D b gm mod_thrown mod_places mod_firings mod_fired mod_logged mod_tokens mod_weights mod_logs mod_marks mod_whence mod_by mod_leads mod_comes mod_costs mod_next mod_found l5 l2 l4 r2 hr2) ⟨(Nat.le_of_ble_eq_true rfl), (Nat.le_of_ble_eq_true rfl)⟩ rfl rfl 0 rfl rfl (ww _) (ww _) rfl C.2.2.2.2.2.2.1 (Nat.le_of_ble_eq_true rfl) rfl rfl (Nat.zero_le _) (Nat.zero_le _) dX6_canIn_86 ?_
        refine j_bipush C (by decide) dX6_canIn_89 ?_
        refine j_icmp_gt C h 98 (by decide) dX6_canIn_91 (fun c3 h => ?_) (fun c3 h => ?_)
        · refine j_lv [0, 1, 2, 3] rfl ?_
          exact J98 l1 l2 l4 h
        · refine j_iconst C dX6_canIn_94 ?_
          refine j_goto C 99 (by decide) dX6_canIn_95 ?_
          refine j_lv [0, 1, 2, 3] rfl ?_
          exact J99 l1 l2 l4 1 h
      unfold F_X6_canIn_b5_body at h
      refine j_iload C 4 rfl dX6_canIn_5 ?_
      refine j_aload_n C 0 rfl rfl dX6_canIn_7 ?_
      refine g_X6_48 C (v := .int (vI mod_places)) 0 rfl rfl dX6_canIn_8 ?_
      refine j_icmp_ge C h 106 (by decide) dX6_canIn_11 (fun c15 h => ?_) (fun c15 h => ?_)
      · refine j_iload_n C 3 rfl rfl dX6_canIn_106 ?_
        obtain ⟨hz4, h⟩ := G_of h
        cases h
        exact RET _ _ hz4 dX6_canIn_107
      · refine j_aload_n C 0 rfl rfl dX6_canIn_14 ?_
        refine g_X6_19 C (v := .ref (b 4)) 0 rfl rfl dX6_canIn_15 ?_
        refine j_bipush C (by decide) dX6_canIn_18 ?_
        refine j_iload_n C 1 rfl rfl dX6_canIn_20 ?_
        refine j_imul C dX6_canIn_21 ?_
        refine j_iload C 4 rfl dX6_canIn_22 ?_
        refine j_iadd C dX6_canIn_24 ?_
        refine j_nm h (fun v5 h => ?_)
        refine j_iald C 4 3 rfl rfl (Nat.le_of_ble_eq_true rfl) h dX6_canIn_25 (fun v6 h => ?_)
        refine j_istore C [(5, .int (vI v6)), (0, .ref (b 0)), (1, .int (vI l1)), (2, .int (vI l2)), (3, .int (vI l3)), (4, .int (vI l4))] rfl (by decide) dX6_canIn_26 ?_
        refine j_aload_n C 1 rfl rfl dX6_canIn_28 ?_
        refine j_iconst C dX6_canIn_29 ?_
        refine j_iload_n C 3 rfl rfl dX6_canIn_30 ?_
        refine j_iload C 5 rfl dX6_canIn_31 ?_
        obtain ⟨r7, hr7, h⟩ := Ob_of h
        refine q_X6_68 C (wc := (mW b gm mod_thrown mod_places mod_firings mod_fired mod_logged mod_tokens mod_weights mod_logs mod_marks mod_whence mod_by mod_leads mod_comes mod_costs mod_next mod_found)) (wc' := (mW b gm mod_thrown mod_places mod_firings mod_fired mod_logged mod_tokens mod_weights mod_logs mod_marks mod_whence mod_by mod_leads mod_comes mod_costs mod_next mod_found)) (c_X6_weight l D b gm mod_thrown mod_places mod_firings mod_fired mod_logged mod_tokens mod_weights mod_logs mod_marks mod_whence mod_by mod_leads mod_comes mod_costs mod_next mod_found 3 l2 l4 r7 hr7) ⟨(Nat.le_of_ble_eq_true rfl), (Nat.le_of_ble_eq_true rfl)⟩ rfl rfl 0 rfl rfl (ww _) (ww _) rfl C.2.2.2.2.2.2.1 (Nat.le_of_ble_eq_true rfl) rfl rfl (Nat.zero_le _) (Nat.zero_le _) dX6_canIn_33 ?_
        refine j_istore C [(6, .int (vI r7)), (5, .int (vI v6)), (0, .ref (b 0)), (1, .int (vI l1)), (2, .int (vI l2)), (3, .int (vI l3)), (4, .int (vI l4))] rfl (by decide) dX6_canIn_36 ?_
        refine j_iload_n C 5 rfl rfl dX6_canIn_38 ?_
        refine j_if_eq C h 98 (by decide) dX6_canIn_39 (fun c14 h => ?_) (fun c14 h => ?_)
        · refine j_lv [2, 3, 4, 6] rfl ?_
          exact J98 l1 l2 l4 h
        · refine j_iload C 1 rfl dX6_canIn_42 ?_
          refine j_aload_n C 2 rfl rfl dX6_canIn_44 ?_
          refine j_iconst C dX6_canIn_45 ?_
          refine j_iload_n C 4 rfl rfl dX6_canIn_46 ?_
          refine j_iload C 6 rfl dX6_canIn_47 ?_
          obtain ⟨r8, hr8, h⟩ := Ob_of h
          refine q_X6_68 C (wc := (mW b gm mod_thrown mod_places mod_firings mod_fired mod_logged mod_tokens mod_weights mod_logs mod_marks mod_whence mod_by mod_leads mod_comes mod_costs mod_next mod_found)) (wc' := (mW b gm mod_thrown mod_places mod_firings mod_fired mod_logged mod_tokens mod_weights mod_logs mod_marks mod_whence mod_by mod_leads mod_comes mod_costs mod_next mod_found)) (c_X6_weight l D b gm mod_thrown mod_places mod_firings mod_fired mod_logged mod_tokens mod_weights mod_logs mod_marks mod_whence mod_by mod_leads mod_comes mod_costs mod_next mod_found 0 l2 l4 r8 hr8) ⟨(Nat.le_of_ble_eq_true rfl), (Nat.le_of_ble_eq_true rfl)⟩ rfl rfl 0 rfl rfl (ww _) (ww _) rfl C.2.2.2.2.2.2.1 (Nat.le_of_ble_eq_true rfl) rfl rfl (Nat.zero_le _) (Nat.zero_le _) dX6_canIn_49 ?_
          refine j_icmp_lt C h 98 (by decide) dX6_canIn_52 (fun c13 h => ?_) (fun c13 h => ?_)
          · refine j_lv [2, 3, 4, 6] rfl ?_
            exact J98 l1 l2 l4 h
          · refine j_iload C 1 rfl dX6_canIn_55 ?_
            refine j_aload_n C 2 rfl rfl dX6_canIn_57 ?_
            refine j_iconst C dX6_canIn_58 ?_
            refine j_iload_n C 4 rfl rfl dX6_canIn_59 ?_
            refine j_iload C 6 rfl dX6_canIn_60 ?_
            obtain ⟨r9, hr9, h⟩ := Ob_of h
            refine q_X6_68 C (wc := (mW b gm mod_thrown mod_places mod_firings mod_fired mod_logged mod_tokens mod_weights mod_logs mod_marks mod_whence mod_by mod_leads mod_comes mod_costs mod_next mod_found)) (wc' := (mW b gm mod_thrown mod_places mod_firings mod_fired mod_logged mod_tokens mod_weights mod_logs mod_marks mod_whence mod_by mod_leads mod_comes mod_costs mod_next mod_found)) (c_X6_weight l D b gm mod_thrown mod_places mod_firings mod_fired mod_logged mod_tokens mod_weights mod_logs mod_marks mod_whence mod_by mod_leads mod_comes mod_costs mod_next mod_found 2 l2 l4 r9 hr9) ⟨(Nat.le_of_ble_eq_true rfl), (Nat.le_of_ble_eq_true rfl)⟩ rfl rfl 0 rfl rfl (ww _) (ww _) rfl C.2.2.2.2.2.2.1 (Nat.le_of_ble_eq_true rfl) rfl rfl (Nat.zero_le _) (Nat.zero_le _) dX6_canIn_62 ?_
            refine j_icmp_lt C h 98 (by decide) dX6_canIn_65 (fun c12 h => ?_) (fun c12 h => ?_)
            · refine j_lv [2, 3, 4, 6] rfl ?_
              exact J98 l1 l2 l4 h
            · refine j_iload C 0 rfl dX6_canIn_68 ?_
              refine j_if_eq C h 80 (by decide) dX6_canIn_70 (fun c11 h => ?_) (fun c11 h => ?_)
              · refine j_lv [2, 3, 4, 6, 1] rfl ?_
                exact J80 l1 l2 l4 v6 h
              · refine j_iload C 1 rfl dX6_canIn_73 ?_
                refine j_iload C 0 rfl dX6_canIn_75 ?_
                refine j_icmp_ge C h 98 (by decide) dX6_canIn_77 (fun c10 h => ?_) (fun c10 h => ?_)
                · refine j_lv [2, 3, 4, 6] rfl ?_
                  exact J98 l1 l2 l4 h
                · refine j_lv [2, 3, 4, 6, 1] rfl ?_
                  exact J80 l1 l2 l4 v6 h
  unfold F_X6_canIn at h
  refine j_iconst C dX6_canIn_0 ?_
  refine j_istore_n C [(3, .int (vI 1)), (0, .ref (b 0)), (1, .int (vI x1)), (2, .int (vI x2))] rfl rfl (by decide) dX6_canIn_1 ?_
  refine j_iconst C dX6_canIn_2 ?_
  refine j_istore C [(4, .int (vI 0)), (3, .int (vI 1)), (0, .ref (b 0)), (1, .int (vI x1)), (2, .int (vI x2))] rfl (by decide) dX6_canIn_3 ?_
  refine j_lv [2, 3, 4, 1, 0] rfl ?_
  exact J5 NN x1 x2 1 0 h
theorem c_X6_canIn (l : Launch) (D : va_G) (b : Nat → Nat) (gm : Nat → ClassId) (mod_thrown : Int) (mod_places : Int) (mod_firings : Int) (mod_fired : Int) (mod_logged : Int) (mod_tokens : Nat → Int) (mod_weights : Nat → Int) (mod_logs : Nat → Int) (mod_marks : Nat → Int) (mod_whence : Nat → Int) (mod_by : Nat → Int) (mod_leads : Nat → Int) (mod_comes : Nat → Int) (mod_costs : Nat → Int) (mod_next : Nat → Int) (mod_found : Nat → Int) (x1 : Int) (x2 : Int) (res : Int) (h : F_X6_canIn x1 x2 mod_places mod_weights mod_marks = some res) : Kt l yX6_canIn cX6_canIn 7 (some .boolean) ({ frames := 2, cells := 0, slots := 0, locals := 46 } : Room) D (mT gm) [.ref (b 0), .int (vI x1), .int (vI x2)] (mW b gm mod_thrown mod_places mod_firings mod_fired mod_logged mod_tokens mod_weights mod_logs mod_marks mod_whence mod_by mod_leads mod_comes mod_costs mod_next mod_found) (mW b gm mod_thrown mod_places mod_firings mod_fired mod_logged mod_tokens mod_weights mod_logs mod_marks mod_whence mod_by mod_leads mod_comes mod_costs mod_next mod_found) (some (.int (vI res))) :=
  kt_z rfl (by decide +kernel) (Nat.le_of_ble_eq_true rfl) (fun C RET => k_X6_canIn C x1 x2 res h RET)
set_option maxRecDepth 100000 in
set_option maxHeartbeats 4000000 in
theorem k_X6_layNow {b : Nat → Nat} {gm : Nat → ClassId} {mod_thrown : Int} {mod_places : Int} {mod_firings : Int} {mod_fired : Int} {mod_logged : Int} {mod_tokens : Nat → Int} {mod_weights : Nat → Int} {mod_logs : Nat → Int} {mod_marks : Nat → Int} {mod_whence : Nat → Int} {mod_by : Nat → Int} {mod_leads : Nat → Int} {mod_comes : Nat → Int} {mod_costs : Nat → Int} {mod_next : Nat → Int} {mod_found : Nat → Int} (C : JC p s m args meth c cX6_layNow 2 "MarkingHallModel" D (mT gm) A)  (res : (Nat → Int)) (h : F_X6_layNow mod_places mod_tokens mod_marks = some res) (RET : ∀ (pc : Nat) (lv : List (Nat × Value)), decode cX6_layNow pc = .ok (.return_, 1) → J p l e ({ frames := 0, cells := 0, slots := 0, locals := 0 } : Room) s m args below meth c D A 2 Q 0 0 (mW b gm mod_thrown mod_places mod_firings mod_fired mod_logged mod_tokens mod_weights mod_logs res mod_whence mod_by mod_leads mod_comes mod_costs mod_next mod_found) pc lv []) : J p l e ({ frames := 0, cells := 0, slots := 0, locals := 0 } : Room) s m args below meth c D A 2 Q 0 0 (mW b gm mod_thrown mod_places mod_firings mod_fired mod_logged mod_tokens mod_weights mod_logs mod_marks mod_whence mod_by mod_leads mod_comes mod_costs mod_next mod_found) 0 [(0, .ref (b 0))] [] := by
  have J2 : ∀ (n : Nat) (l1 : Int) (mod_marks : Nat → Int), F_X6_layNow_b2 mod_places mod_tokens n l1 mod_marks = some res → J p l e ({ frames := 0, cells := 0, slots := 0, locals := 0 } : Room) s m args below meth c D A 2 Q 0 0 (mW b gm mod_thrown mod_places mod_firings mod_fired mod_logged mod_tokens mod_weights mod_logs mod_marks mod_whence mod_by mod_leads mod_comes mod_costs mod_next mod_found) 2 [(0, .ref (b 0)), (1, .int (vI l1))] [] := by
    intro n
    induction n with
    | zero => intro l1 mod_marks h; exact no_h h
    | succ n ih2 =>
      intro l1 mod_marks h
      replace h : F_X6_layNow_b2_body mod_places mod_tokens (F_X6_layNow_b2 mod_places mod_tokens n) l1 mod_marks = some res := h
      generalize F_X6_layNow_b2 mod_places mod_tokens n = ag2 at ih2 h
      unfold F_X6_layNow_b2_body at h
      refine j_iload_n C 1 rfl rfl dX6_layNow_2 ?_
      refine j_aload_n C 0 rfl rfl dX6_layNow_3 ?_
      refine g_X6_48 C (v := .int (vI mod_places)) 0 rfl rfl dX6_layNow_4 ?_
      refine j_icmp_ge C h 28 (by decide) dX6_layNow_7 (fun c4 h => ?_) (fun c4 h => ?_)
      · cases h
        exact RET _ _ dX6_layNow_28
      · refine j_aload_n C 0 rfl rfl dX6_layNow_10 ?_
        refine g_X6_19 C (v := .ref (b 4)) 0 rfl rfl dX6_layNow_11 ?_
        refine j_iload_n C 1 rfl rfl dX6_layNow_14 ?_
        refine j_aload_n C 0 rfl rfl dX6_layNow_15 ?_
        refine g_X6_7 C (v := .ref (b 1)) 0 rfl rfl dX6_layNow_16 ?_
        refine j_iload_n C 1 rfl rfl dX6_layNow_19 ?_
        refine j_iald C 1 0 rfl rfl (Nat.le_of_ble_eq_true rfl) h dX6_layNow_20 (fun v1 h => ?_)
        refine j_iast C 4 3 rfl rfl (Nat.le_of_ble_eq_true rfl) (fun f' => (mW b gm mod_thrown mod_places mod_firings mod_fired mod_logged mod_tokens mod_weights mod_logs f' mod_whence mod_by mod_leads mod_comes mod_costs mod_next mod_found)) (fun _ => rfl) h dX6_layNow_21 (fun f2 h => ?_)
        refine j_iinc C 1 rfl (fun v => [(1, .int (vI v)), (0, .ref (b 0))]) (fun _ => rfl) (by decide) h dX6_layNow_22 (fun v3 h => ?_)
        refine j_goto C 2 (by decide) dX6_layNow_25 ?_
        refine j_lv [1, 0] rfl ?_
        exact ih2 v3 f2 h
  unfold F_X6_layNow at h
  refine j_iconst C dX6_layNow_0 ?_
  refine j_istore_n C [(1, .int (vI 0)), (0, .ref (b 0))] rfl rfl (by decide) dX6_layNow_1 ?_
  refine j_lv [1, 0] rfl ?_
  exact J2 NN 0 mod_marks h
theorem c_X6_layNow (l : Launch) (D : va_G) (b : Nat → Nat) (gm : Nat → ClassId) (mod_thrown : Int) (mod_places : Int) (mod_firings : Int) (mod_fired : Int) (mod_logged : Int) (mod_tokens : Nat → Int) (mod_weights : Nat → Int) (mod_logs : Nat → Int) (mod_marks : Nat → Int) (mod_whence : Nat → Int) (mod_by : Nat → Int) (mod_leads : Nat → Int) (mod_comes : Nat → Int) (mod_costs : Nat → Int) (mod_next : Nat → Int) (mod_found : Nat → Int)  (res : (Nat → Int)) (h : F_X6_layNow mod_places mod_tokens mod_marks = some res) : Kt l yX6_layNow cX6_layNow 2 none ({ frames := 0, cells := 0, slots := 0, locals := 0 } : Room) D (mT gm) [.ref (b 0)] (mW b gm mod_thrown mod_places mod_firings mod_fired mod_logged mod_tokens mod_weights mod_logs mod_marks mod_whence mod_by mod_leads mod_comes mod_costs mod_next mod_found) (mW b gm mod_thrown mod_places mod_firings mod_fired mod_logged mod_tokens mod_weights mod_logs res mod_whence mod_by mod_leads mod_comes mod_costs mod_next mod_found) none :=
  kt_v rfl (by decide +kernel) (Nat.le_of_ble_eq_true rfl) (fun C RET => k_X6_layNow C res h RET)
set_option maxRecDepth 100000 in
set_option maxHeartbeats 4000000 in
theorem k_X6_can {b : Nat → Nat} {gm : Nat → ClassId} {mod_thrown : Int} {mod_places : Int} {mod_firings : Int} {mod_fired : Int} {mod_logged : Int} {mod_tokens : Nat → Int} {mod_weights : Nat → Int} {mod_logs : Nat → Int} {mod_marks : Nat → Int} {mod_whence : Nat → Int} {mod_by : Nat → Int} {mod_leads : Nat → Int} {mod_comes : Nat → Int} {mod_costs : Nat → Int} {mod_next : Nat → Int} {mod_found : Nat → Int} (C : JC p s m args meth c cX6_can 2 "MarkingHallModel" D (mT gm) A) (x1 : Int) (res : Int × (Int) × (Nat → Int)) (h : F_X6_can x1 mod_places mod_firings mod_tokens mod_weights mod_thrown mod_marks = some res) (RET : ∀ (pc : Nat) (lv : List (Nat × Value)), (res.1 = 0 ∨ res.1 = 1) → decode cX6_can pc = .ok (.ireturn, 1) → J p l e ({ frames := 3, cells := 0, slots := 0, locals := 72 } : Room) s m args below meth c D A 2 Q 0 0 (mW b gm res.2.1 mod_places mod_firings mod_fired mod_logged mod_tokens mod_weights mod_logs res.2.2 mod_whence mod_by mod_leads mod_comes mod_costs mod_next mod_found) pc lv [.int (vI res.1)]) : J p l e ({ frames := 3, cells := 0, slots := 0, locals := 72 } : Room) s m args below meth c D A 2 Q 0 0 (mW b gm mod_thrown mod_places mod_firings mod_fired mod_logged mod_tokens mod_weights mod_logs mod_marks mod_whence mod_by mod_leads mod_comes mod_costs mod_next mod_found) 0 [(0, .ref (b 0)), (1, .int (vI x1))] [] := by
  have J37 : ∀ (mod_thrown : Int) (mod_marks : Nat → Int), F_X6_can_b37 mod_places mod_firings mod_tokens mod_weights mod_thrown mod_marks = some res → J p l e ({ frames := 3, cells := 0, slots := 0, locals := 72 } : Room) s m args below meth c D A 2 Q 0 0 (mW b gm mod_thrown mod_places mod_firings mod_fired mod_logged mod_tokens mod_weights mod_logs mod_marks mod_whence mod_by mod_leads mod_comes mod_costs mod_next mod_found) 37 [] [] := by
    intro mod_thrown mod_marks h
    unfold F_X6_can_b37 at h
    refine j_iconst C dX6_can_37 ?_
    obtain ⟨hz1, h⟩ := G_of h
    cases h
    exact RET _ _ hz1 dX6_can_38
  have J18 : ∀ (l1 : Int) (s1 : Int) (mod_thrown : Int) (mod_marks : Nat → Int), F_X6_can_b18 mod_places mod_firings mod_tokens mod_weights l1 s1 mod_thrown mod_marks = some res → J p l e ({ frames := 3, cells := 0, slots := 0, locals := 72 } : Room) s m args below meth c D A 2 Q 0 0 (mW b gm mod_thrown mod_places mod_firings mod_fired mod_logged mod_tokens mod_weights mod_logs mod_marks mod_whence mod_by mod_leads mod_comes mod_costs mod_next mod_found) 18 [(0, .ref (b 0)), (1, .int (vI l1))] [.int (vI s1), .ref (b 0)] := by
    intro l1 s1 mod_thrown mod_marks h
    unfold F_X6_can_b18 at h
    obtain ⟨r2, hr2, h⟩ := Ob_of h
    refine q_X6_58 C (wc := (mW b gm mod_thrown mod_places mod_firings mod_fired mod_logged mod_tokens mod_weights mod_logs mod_marks mod_whence mod_by mod_leads mod_comes mod_costs mod_next mod_found)) (wc' := (mW b gm r2.2 mod_places mod_firings mod_fired mod_logged mod_tokens mod_weights mod_logs mod_marks mod_whence mod_by mod_leads mod_comes mod_costs mod_next mod_found)) (c_X6_goesWell l D b gm mod_thrown mod_places mod_firings mod_fired mod_logged mod_tokens mod_weights mod_logs mod_marks mod_whence mod_by mod_leads mod_comes mod_costs mod_next mod_found s1 r2 hr2) ⟨(Nat.le_of_ble_eq_true rfl), (Nat.le_of_ble_eq_true rfl)⟩ rfl rfl 0 rfl rfl (ww _) (ww _) mW_ha C.2.2.2.2.2.2.1 (Nat.le_of_ble_eq_true rfl) rfl rfl (Nat.zero_le _) (Nat.zero_le _) dX6_can_18 ?_
    refine j_if_eq C h 37 (by decide) dX6_can_21 (fun c6 h => ?_) (fun c6 h => ?_)
    · refine j_lv [] rfl ?_
      exact J37 r2.2 mod_marks h
    · refine j_aload_n C 0 rfl rfl dX6_can_24 ?_
      refine j_iconst C dX6_can_25 ?_
      refine j_iload_n C 1 rfl rfl dX6_can_26 ?_
      obtain ⟨r3, hr3, h⟩ := Ob_of h
      refine q_X6_78 C (wc := (mW b gm r2.2 mod_places mod_firings mod_fired mod_logged mod_tokens mod_weights mod_logs mod_marks mod_whence mod_by mod_leads mod_comes mod_costs mod_next mod_found)) (wc' := (mW b gm r2.2 mod_places mod_firings mod_fired mod_logged mod_tokens mod_weights mod_logs mod_marks mod_whence mod_by mod_leads mod_comes mod_costs mod_next mod_found)) (c_X6_canIn l D b gm r2.2 mod_places mod_firings mod_fired mod_logged mod_tokens mod_weights mod_logs mod_marks mod_whence mod_by mod_leads mod_comes mod_costs mod_next mod_found 0 l1 r3 hr3) ⟨(Nat.le_of_ble_eq_true rfl), (Nat.le_of_ble_eq_true rfl)⟩ rfl rfl 0 rfl rfl (ww _) (ww _) rfl C.2.2.2.2.2.2.1 (Nat.le_of_ble_eq_true rfl) rfl rfl (Nat.zero_le _) (Nat.zero_le _) dX6_can_27 ?_
      refine j_if_eq C h 37 (by decide) dX6_can_30 (fun c5 h => ?_) (fun c5 h => ?_)
      · refine j_lv [] rfl ?_
        exact J37 r2.2 mod_marks h
      · refine j_iconst C dX6_can_33 ?_
        refine j_goto C 38 (by decide) dX6_can_34 ?_
        obtain ⟨hz4, h⟩ := G_of h
        cases h
        exact RET _ _ hz4 dX6_can_38
  unfold F_X6_can at h
  refine j_aload_n C 0 rfl rfl dX6_can_0 ?_
  obtain ⟨r7, hr7, h⟩ := Ob_of h
  refine q_X6_75 C (wc := (mW b gm mod_thrown mod_places mod_firings mod_fired mod_logged mod_tokens mod_weights mod_logs mod_marks mod_whence mod_by mod_leads mod_comes mod_costs mod_next mod_found)) (wc' := (mW b gm mod_thrown mod_places mod_firings mod_fired mod_logged mod_tokens mod_weights mod_logs r7 mod_whence mod_by mod_leads mod_comes mod_costs mod_next mod_found)) (c_X6_layNow l D b gm mod_thrown mod_places mod_firings mod_fired mod_logged mod_tokens mod_weights mod_logs mod_marks mod_whence mod_by mod_leads mod_comes mod_costs mod_next mod_found r7 hr7) ⟨(Nat.le_of_ble_eq_true rfl), (Nat.le_of_ble_eq_true rfl)⟩ rfl rfl 0 rfl rfl (ww _) (ww _) mW_ha C.2.2.2.2.2.2.1 (Nat.le_of_ble_eq_true rfl) rfl rfl (Nat.zero_le _) (Nat.zero_le _) dX6_can_1 ?_
  refine j_aload_n C 0 rfl rfl dX6_can_4 ?_
  refine j_aload_n C 0 rfl rfl dX6_can_5 ?_
  refine j_iload_n C 1 rfl rfl dX6_can_6 ?_
  obtain ⟨r8, hr8, h⟩ := Ob_of h
  refine q_X6_62 C (wc := (mW b gm mod_thrown mod_places mod_firings mod_fired mod_logged mod_tokens mod_weights mod_logs r7 mod_whence mod_by mod_leads mod_comes mod_costs mod_next mod_found)) (wc' := (mW b gm mod_thrown mod_places mod_firings mod_fired mod_logged mod_tokens mod_weights mod_logs r7 mod_whence mod_by mod_leads mod_comes mod_costs mod_next mod_found)) (c_X6_isFiring l D b gm mod_thrown mod_places mod_firings mod_fired mod_logged mod_tokens mod_weights mod_logs r7 mod_whence mod_by mod_leads mod_comes mod_costs mod_next mod_found x1 r8 hr8) ⟨(Nat.le_of_ble_eq_true rfl), (Nat.le_of_ble_eq_true rfl)⟩ rfl rfl 0 rfl rfl (ww _) (ww _) rfl C.2.2.2.2.2.2.1 (Nat.le_of_ble_eq_true rfl) rfl rfl (Nat.zero_le _) (Nat.zero_le _) dX6_can_7 ?_
  refine j_if_eq C h 17 (by decide) dX6_can_10 (fun c9 h => ?_) (fun c9 h => ?_)
  · refine j_iconst C dX6_can_17 ?_
    exact J18 x1 1 mod_thrown r7 h
  · refine j_iconst C dX6_can_13 ?_
    refine j_goto C 18 (by decide) dX6_can_14 ?_
    exact J18 x1 0 mod_thrown r7 h
theorem c_X6_can (l : Launch) (D : va_G) (b : Nat → Nat) (gm : Nat → ClassId) (mod_thrown : Int) (mod_places : Int) (mod_firings : Int) (mod_fired : Int) (mod_logged : Int) (mod_tokens : Nat → Int) (mod_weights : Nat → Int) (mod_logs : Nat → Int) (mod_marks : Nat → Int) (mod_whence : Nat → Int) (mod_by : Nat → Int) (mod_leads : Nat → Int) (mod_comes : Nat → Int) (mod_costs : Nat → Int) (mod_next : Nat → Int) (mod_found : Nat → Int) (x1 : Int) (res : Int × (Int) × (Nat → Int)) (h : F_X6_can x1 mod_places mod_firings mod_tokens mod_weights mod_thrown mod_marks = some res) : Kt l yX6_can cX6_can 2 (some .boolean) ({ frames := 3, cells := 0, slots := 0, locals := 72 } : Room) D (mT gm) [.ref (b 0), .int (vI x1)] (mW b gm mod_thrown mod_places mod_firings mod_fired mod_logged mod_tokens mod_weights mod_logs mod_marks mod_whence mod_by mod_leads mod_comes mod_costs mod_next mod_found) (mW b gm res.2.1 mod_places mod_firings mod_fired mod_logged mod_tokens mod_weights mod_logs res.2.2 mod_whence mod_by mod_leads mod_comes mod_costs mod_next mod_found) (some (.int (vI res.1))) :=
  kt_z rfl (by decide +kernel) (Nat.le_of_ble_eq_true rfl) (fun C RET => k_X6_can C x1 res h RET)
set_option maxRecDepth 100000 in
set_option maxHeartbeats 4000000 in
theorem k_X6_fire {b : Nat → Nat} {gm : Nat → ClassId} {mod_thrown : Int} {mod_places : Int} {mod_firings : Int} {mod_fired : Int} {mod_logged : Int} {mod_tokens : Nat → Int} {mod_weights : Nat → Int} {mod_logs : Nat → Int} {mod_marks : Nat → Int} {mod_whence : Nat → Int} {mod_by : Nat → Int} {mod_leads : Nat → Int} {mod_comes : Nat → Int} {mod_costs : Nat → Int} {mod_next : Nat → Int} {mod_found : Nat → Int} (C : JC p s m args meth c cX6_fire 4 "MarkingHallModel" D (mT gm) A) (x1 : Int) (res : Int × (Int) × (Int) × (Nat → Int) × (Nat → Int)) (h : F_X6_fire x1 mod_places mod_firings mod_weights mod_thrown mod_fired mod_tokens mod_marks = some res) (RET : ∀ (pc : Nat) (lv : List (Nat × Value)), decode cX6_fire pc = .ok (.ireturn, 1) → J p l e ({ frames := 3, cells := 0, slots := 0, locals := 72 } : Room) s m args below meth c D A 4 Q 0 0 (mW b gm res.2.1 mod_places mod_firings res.2.2.1 mod_logged res.2.2.2.1 mod_weights mod_logs res.2.2.2.2 mod_whence mod_by mod_leads mod_comes mod_costs mod_next mod_found) pc lv [.int (vI res.1)]) : J p l e ({ frames := 3, cells := 0, slots := 0, locals := 72 } : Room) s m args below meth c D A 4 Q 0 0 (mW b gm mod_thrown mod_places mod_firings mod_fired mod_logged mod_tokens mod_weights mod_logs mod_marks mod_whence mod_by mod_leads mod_comes mod_costs mod_next mod_found) 0 [(0, .ref (b 0)), (1, .int (vI x1))] [] := by
  have J43 : ∀ (n : Nat) (l1 : Int) (l3 : Int) (mod_thrown : Int) (mod_fired : Int) (mod_tokens : Nat → Int) (mod_marks : Nat → Int), F_X6_fire_b43 mod_places mod_firings mod_weights n l1 l3 mod_thrown mod_fired mod_tokens mod_marks = some res → J p l e ({ frames := 3, cells := 0, slots := 0, locals := 72 } : Room) s m args below meth c D A 4 Q 0 0 (mW b gm mod_thrown mod_places mod_firings mod_fired mod_logged mod_tokens mod_weights mod_logs mod_marks mod_whence mod_by mod_leads mod_comes mod_costs mod_next mod_found) 43 [(0, .ref (b 0)), (1, .int (vI l1)), (3, .int (vI l3))] [] := by
    intro n
    induction n with
    | zero => intro l1 l3 mod_thrown mod_fired mod_tokens mod_marks h; exact no_h h
    | succ n ih43 =>
      intro l1 l3 mod_thrown mod_fired mod_tokens mod_marks h
      replace h : F_X6_fire_b43_body mod_places mod_firings mod_weights (F_X6_fire_b43 mod_places mod_firings mod_weights n) l1 l3 mod_thrown mod_fired mod_tokens mod_marks = some res := h
      generalize F_X6_fire_b43 mod_places mod_firings mod_weights n = ag43 at ih43 h
      unfold F_X6_fire_b43_body at h
      refine j_iload_n C 2 rfl rfl dX6_fire_43 ?_
      refine j_aload_n C 0 rfl rfl dX6_fire_44 ?_
      refine g_X6_48 C (v := .int (vI mod_places)) 0 rfl rfl dX6_fire_45 ?_
      refine j_icmp_ge C h 75 (by decide) dX6_fire_48 (fun c6 h => ?_) (fun c6 h => ?_)
      · refine j_aload_n C 0 rfl rfl dX6_fire_75 ?_
        refine j_dup C rfl dX6_fire_76 ?_
        refine g_X6_82 C (v := .int (vI mod_fired)) 0 rfl rfl dX6_fire_77 ?_
        refine j_iconst C dX6_fire_80 ?_
        refine j_iadd C dX6_fire_81 ?_
        refine j_nm h (fun v1 h => ?_)
        refine p_X6_82 C 0 rfl (Nat.le_of_ble_eq_true rfl) (mW b gm mod_thrown mod_places mod_firings v1 mod_logged mod_tokens mod_weights mod_logs mod_marks mod_whence mod_by mod_leads mod_comes mod_costs mod_next mod_found) rfl dX6_fire_82 ?_
        refine j_aload_n C 0 rfl rfl dX6_fire_85 ?_
        refine g_X6_82 C (v := .int (vI v1)) 0 rfl rfl dX6_fire_86 ?_
        cases h
        exact RET _ _ dX6_fire_89
      · refine j_aload_n C 0 rfl rfl dX6_fire_51 ?_
        refine g_X6_7 C (v := .ref (b 1)) 0 rfl rfl dX6_fire_52 ?_
        refine j_iload_n C 2 rfl rfl dX6_fire_55 ?_
        refine j_aload_n C 0 rfl rfl dX6_fire_56 ?_
        refine j_aload_n C 0 rfl rfl dX6_fire_57 ?_
        refine g_X6_7 C (v := .ref (b 1)) 0 rfl rfl dX6_fire_58 ?_
        refine j_iload_n C 2 rfl rfl dX6_fire_61 ?_
        refine j_iald C 1 0 rfl rfl (Nat.le_of_ble_eq_true rfl) h dX6_fire_62 (fun v2 h => ?_)
        refine j_iload_n C 1 rfl rfl dX6_fire_63 ?_
        refine j_iload_n C 2 rfl rfl dX6_fire_64 ?_
        obtain ⟨r3, hr3, h⟩ := Ob_of h
        refine q_X6_72 C (wc := (mW b gm mod_thrown mod_places mod_firings mod_fired mod_logged mod_tokens mod_weights mod_logs mod_marks mod_whence mod_by mod_leads mod_comes mod_costs mod_next mod_found)) (wc' := (mW b gm mod_thrown mod_places mod_firings mod_fired mod_logged mod_tokens mod_weights mod_logs mod_marks mod_whence mod_by mod_leads mod_comes mod_costs mod_next mod_found)) (c_X6_after l D b gm mod_thrown mod_places mod_firings mod_fired mod_logged mod_tokens mod_weights mod_logs mod_marks mod_whence mod_by mod_leads mod_comes mod_costs mod_next mod_found v2 l1 l3 r3 hr3) ⟨(Nat.le_of_ble_eq_true rfl), (Nat.le_of_ble_eq_true rfl)⟩ rfl rfl 0 rfl rfl (ww _) (ww _) rfl C.2.2.2.2.2.2.1 (Nat.le_of_ble_eq_true rfl) rfl rfl (Nat.zero_le _) (Nat.zero_le _) dX6_fire_65 ?_
        refine j_iast C 1 0 rfl rfl (Nat.le_of_ble_eq_true rfl) (fun f' => (mW b gm mod_thrown mod_places mod_firings mod_fired mod_logged f' mod_weights mod_logs mod_marks mod_whence mod_by mod_leads mod_comes mod_costs mod_next mod_found)) (fun _ => rfl) h dX6_fire_68 (fun f4 h => ?_)
        refine j_iinc C 2 rfl (fun v => [(3, .int (vI v)), (0, .ref (b 0)), (1, .int (vI l1))]) (fun _ => rfl) (by decide) h dX6_fire_69 (fun v5 h => ?_)
        refine j_goto C 43 (by decide) dX6_fire_72 ?_
        refine j_lv [1, 2, 0] rfl ?_
        exact ih43 l1 v5 mod_thrown mod_fired f4 mod_marks h
  have J33 : ∀ (l1 : Int) (s1 : Int) (mod_thrown : Int) (mod_fired : Int) (mod_tokens : Nat → Int) (mod_marks : Nat → Int), F_X6_fire_b33 mod_places mod_firings mod_weights l1 s1 mod_thrown mod_fired mod_tokens mod_marks = some res → J p l e ({ frames := 3, cells := 0, slots := 0, locals := 72 } : Room) s m args below meth c D A 4 Q 0 0 (mW b gm mod_thrown mod_places mod_firings mod_fired mod_logged mod_tokens mod_weights mod_logs mod_marks mod_whence mod_by mod_leads mod_comes mod_costs mod_next mod_found) 33 [(0, .ref (b 0)), (1, .int (vI l1))] [.int (vI s1), .ref (b 0)] := by
    intro l1 s1 mod_thrown mod_fired mod_tokens mod_marks h
    unfold F_X6_fire_b33 at h
    obtain ⟨r7, hr7, h⟩ := Ob_of h
    refine q_X6_58 C (wc := (mW b gm mod_thrown mod_places mod_firings mod_fired mod_logged mod_tokens mod_weights mod_logs mod_marks mod_whence mod_by mod_leads mod_comes mod_costs mod_next mod_found)) (wc' := (mW b gm r7.2 mod_places mod_firings mod_fired mod_logged mod_tokens mod_weights mod_logs mod_marks mod_whence mod_by mod_leads mod_comes mod_costs mod_next mod_found)) (c_X6_goesWell l D b gm mod_thrown mod_places mod_firings mod_fired mod_logged mod_tokens mod_weights mod_logs mod_marks mod_whence mod_by mod_leads mod_comes mod_costs mod_next mod_found s1 r7 hr7) ⟨(Nat.le_of_ble_eq_true rfl), (Nat.le_of_ble_eq_true rfl)⟩ rfl rfl 0 rfl rfl (ww _) (ww _) mW_ha C.2.2.2.2.2.2.1 (Nat.le_of_ble_eq_true rfl) rfl rfl (Nat.zero_le _) (Nat.zero_le _) dX6_fire_33 ?_
    refine j_if_ne C h 41 (by decide) dX6_fire_36 (fun c8 h => ?_) (fun c8 h => ?_)
    · refine j_iconst C dX6_fire_41 ?_
      refine j_istore_n C [(3, .int (vI 0)), (0, .ref (b 0)), (1, .int (vI l1))] rfl rfl (by decide) dX6_fire_42 ?_
      refine j_lv [1, 2, 0] rfl ?_
      exact J43 NN l1 0 r7.2 mod_fired mod_tokens mod_marks h
    · refine j_iconst C dX6_fire_39 ?_
      cases h
      exact RET _ _ dX6_fire_40
  unfold F_X6_fire at h
  refine j_aload_n C 0 rfl rfl dX6_fire_0 ?_
  obtain ⟨r9, hr9, h⟩ := Ob_of h
  refine q_X6_75 C (wc := (mW b gm mod_thrown mod_places mod_firings mod_fired mod_logged mod_tokens mod_weights mod_logs mod_marks mod_whence mod_by mod_leads mod_comes mod_costs mod_next mod_found)) (wc' := (mW b gm mod_thrown mod_places mod_firings mod_fired mod_logged mod_tokens mod_weights mod_logs r9 mod_whence mod_by mod_leads mod_comes mod_costs mod_next mod_found)) (c_X6_layNow l D b gm mod_thrown mod_places mod_firings mod_fired mod_logged mod_tokens mod_weights mod_logs mod_marks mod_whence mod_by mod_leads mod_comes mod_costs mod_next mod_found r9 hr9) ⟨(Nat.le_of_ble_eq_true rfl), (Nat.le_of_ble_eq_true rfl)⟩ rfl rfl 0 rfl rfl (ww _) (ww _) mW_ha C.2.2.2.2.2.2.1 (Nat.le_of_ble_eq_true rfl) rfl rfl (Nat.zero_le _) (Nat.zero_le _) dX6_fire_1 ?_
  refine j_aload_n C 0 rfl rfl dX6_fire_4 ?_
  refine j_iload_n C 1 rfl rfl dX6_fire_5 ?_
  obtain ⟨r10, hr10, h⟩ := Ob_of h
  refine q_X6_62 C (wc := (mW b gm mod_thrown mod_places mod_firings mod_fired mod_logged mod_tokens mod_weights mod_logs r9 mod_whence mod_by mod_leads mod_comes mod_costs mod_next mod_found)) (wc' := (mW b gm mod_thrown mod_places mod_firings mod_fired mod_logged mod_tokens mod_weights mod_logs r9 mod_whence mod_by mod_leads mod_comes mod_costs mod_next mod_found)) (c_X6_isFiring l D b gm mod_thrown mod_places mod_firings mod_fired mod_logged mod_tokens mod_weights mod_logs r9 mod_whence mod_by mod_leads mod_comes mod_costs mod_next mod_found x1 r10 hr10) ⟨(Nat.le_of_ble_eq_true rfl), (Nat.le_of_ble_eq_true rfl)⟩ rfl rfl 0 rfl rfl (ww _) (ww _) rfl C.2.2.2.2.2.2.1 (Nat.le_of_ble_eq_true rfl) rfl rfl (Nat.zero_le _) (Nat.zero_le _) dX6_fire_6 ?_
  refine j_istore_n C [(2, .int (vI r10)), (0, .ref (b 0)), (1, .int (vI x1))] rfl rfl (by decide) dX6_fire_9 ?_
  refine j_aload_n C 1 rfl rfl dX6_fire_10 ?_
  refine j_iload_n C 0 rfl rfl dX6_fire_11 ?_
  refine j_if_ne C h 19 (by decide) dX6_fire_12 (fun c13 h => ?_) (fun c13 h => ?_)
  · refine j_aload_n C 1 rfl rfl dX6_fire_19 ?_
    refine j_iconst C dX6_fire_20 ?_
    refine j_iload_n C 2 rfl rfl dX6_fire_21 ?_
    obtain ⟨r11, hr11, h⟩ := Ob_of h
    refine q_X6_78 C (wc := (mW b gm mod_thrown mod_places mod_firings mod_fired mod_logged mod_tokens mod_weights mod_logs r9 mod_whence mod_by mod_leads mod_comes mod_costs mod_next mod_found)) (wc' := (mW b gm mod_thrown mod_places mod_firings mod_fired mod_logged mod_tokens mod_weights mod_logs r9 mod_whence mod_by mod_leads mod_comes mod_costs mod_next mod_found)) (c_X6_canIn l D b gm mod_thrown mod_places mod_firings mod_fired mod_logged mod_tokens mod_weights mod_logs r9 mod_whence mod_by mod_leads mod_comes mod_costs mod_next mod_found 0 x1 r11 hr11) ⟨(Nat.le_of_ble_eq_true rfl), (Nat.le_of_ble_eq_true rfl)⟩ rfl rfl 0 rfl rfl (ww _) (ww _) rfl C.2.2.2.2.2.2.1 (Nat.le_of_ble_eq_true rfl) rfl rfl (Nat.zero_le _) (Nat.zero_le _) dX6_fire_22 ?_
    refine j_if_eq C h 32 (by decide) dX6_fire_25 (fun c12 h => ?_) (fun c12 h => ?_)
    · refine j_iconst C dX6_fire_32 ?_
      refine j_lv [1, 2] rfl ?_
      exact J33 x1 2 mod_thrown mod_fired mod_tokens r9 h
    · refine j_iconst C dX6_fire_28 ?_
      refine j_goto C 33 (by decide) dX6_fire_29 ?_
      refine j_lv [1, 2] rfl ?_
      exact J33 x1 0 mod_thrown mod_fired mod_tokens r9 h
  · refine j_iconst C dX6_fire_15 ?_
    refine j_goto C 33 (by decide) dX6_fire_16 ?_
    refine j_lv [1, 2] rfl ?_
    exact J33 x1 1 mod_thrown mod_fired mod_tokens r9 h
theorem c_X6_fire (l : Launch) (D : va_G) (b : Nat → Nat) (gm : Nat → ClassId) (mod_thrown : Int) (mod_places : Int) (mod_firings : Int) (mod_fired : Int) (mod_logged : Int) (mod_tokens : Nat → Int) (mod_weights : Nat → Int) (mod_logs : Nat → Int) (mod_marks : Nat → Int) (mod_whence : Nat → Int) (mod_by : Nat → Int) (mod_leads : Nat → Int) (mod_comes : Nat → Int) (mod_costs : Nat → Int) (mod_next : Nat → Int) (mod_found : Nat → Int) (x1 : Int) (res : Int × (Int) × (Int) × (Nat → Int) × (Nat → Int)) (h : F_X6_fire x1 mod_places mod_firings mod_weights mod_thrown mod_fired mod_tokens mod_marks = some res) : Kt l yX6_fire cX6_fire 4 (some .int) ({ frames := 3, cells := 0, slots := 0, locals := 72 } : Room) D (mT gm) [.ref (b 0), .int (vI x1)] (mW b gm mod_thrown mod_places mod_firings mod_fired mod_logged mod_tokens mod_weights mod_logs mod_marks mod_whence mod_by mod_leads mod_comes mod_costs mod_next mod_found) (mW b gm res.2.1 mod_places mod_firings res.2.2.1 mod_logged res.2.2.2.1 mod_weights mod_logs res.2.2.2.2 mod_whence mod_by mod_leads mod_comes mod_costs mod_next mod_found) (some (.int (vI res.1))) :=
  kt_i (ty := .int) rfl rfl (by decide +kernel) (Nat.le_of_ble_eq_true rfl) (fun C RET => k_X6_fire C x1 res h RET)
set_option maxRecDepth 100000 in
set_option maxHeartbeats 4000000 in
theorem k_X6_isAlike {b : Nat → Nat} {gm : Nat → ClassId} {mod_thrown : Int} {mod_places : Int} {mod_firings : Int} {mod_fired : Int} {mod_logged : Int} {mod_tokens : Nat → Int} {mod_weights : Nat → Int} {mod_logs : Nat → Int} {mod_marks : Nat → Int} {mod_whence : Nat → Int} {mod_by : Nat → Int} {mod_leads : Nat → Int} {mod_comes : Nat → Int} {mod_costs : Nat → Int} {mod_next : Nat → Int} {mod_found : Nat → Int} (C : JC p s m args meth c cX6_isAlike 5 "MarkingHallModel" D (mT gm) A) (x1 : Int) (x2 : Int) (res : Int) (h : F_X6_isAlike x1 x2 mod_places mod_marks = some res) (RET : ∀ (pc : Nat) (lv : List (Nat × Value)), (res = 0 ∨ res = 1) → decode cX6_isAlike pc = .ok (.ireturn, 1) → J p l e ({ frames := 0, cells := 0, slots := 0, locals := 0 } : Room) s m args below meth c D A 5 Q 0 0 (mW b gm mod_thrown mod_places mod_firings mod_fired mod_logged mod_tokens mod_weights mod_logs mod_marks mod_whence mod_by mod_leads mod_comes mod_costs mod_next mod_found) pc lv [.int (vI res)]) : J p l e ({ frames := 0, cells := 0, slots := 0, locals := 0 } : Room) s m args below meth c D A 5 Q 0 0 (mW b gm mod_thrown mod_places mod_firings mod_fired mod_logged mod_tokens mod_weights mod_logs mod_marks mod_whence mod_by mod_leads mod_comes mod_costs mod_next mod_found) 0 [(0, .ref (b 0)), (1, .int (vI x1)), (2, .int (vI x2))] [] := by
  have J5 : ∀ (n : Nat) (l1 : Int) (l2 : Int) (l3 : Int) (l4 : Int), F_X6_isAlike_b5 mod_places mod_marks n l1 l2 l3 l4 = some res → J p l e ({ frames := 0, cells := 0, slots := 0, locals := 0 } : Room) s m args below meth c D A 5 Q 0 0 (mW b gm mod_thrown mod_places mod_firings mod_fired mod_logged mod_tokens mod_weights mod_logs mod_marks mod_whence mod_by mod_leads mod_comes mod_costs mod_next mod_found) 5 [(0, .ref (b 0)), (1, .int (vI l1)), (2, .int (vI l2)), (3, .int (vI l3)), (4, .int (vI l4))] [] := by
    intro n
    induction n with
    | zero => intro l1 l2 l3 l4 h; exact no_h h
    | succ n ih5 =>
      intro l1 l2 l3 l4 h
      replace h : F_X6_isAlike_b5_body mod_places mod_marks (F_X6_isAlike_b5 mod_places mod_marks n) l1 l2 l3 l4 = some res := h
      generalize F_X6_isAlike_b5 mod_places mod_marks n = ag5 at ih5 h
      have J50 : ∀ (l1 : Int) (l2 : Int) (l4 : Int) (s0 : Int), F_X6_isAlike_b50 mod_places mod_marks ag5 l1 l2 l4 s0 = some res → J p l e ({ frames := 0, cells := 0, slots := 0, locals := 0 } : Room) s m args below meth c D A 5 Q 0 0 (mW b gm mod_thrown mod_places mod_firings mod_fired mod_logged mod_tokens mod_weights mod_logs mod_marks mod_whence mod_by mod_leads mod_comes mod_costs mod_next mod_found) 50 [(0, .ref (b 0)), (1, .int (vI l1)), (2, .int (vI l2)), (4, .int (vI l4))] [.int (vI s0)] := by
        intro l1 l2 l4 s0 h
        unfold F_X6_isAlike_b50 at h
        refine j_istore_n C [(3, .int (vI s0)), (0, .ref (b 0)), (1, .int (vI l1)), (2, .int (vI l2)), (4, .int (vI l4))] rfl rfl (by decide) dX6_isAlike_50 ?_
        refine j_iinc C 4 rfl (fun v => [(4, .int (vI v)), (3, .int (vI s0)), (0, .ref (b 0)), (1, .int (vI l1)), (2, .int (vI l2))]) (fun _ => rfl) (by decide) h dX6_isAlike_51 (fun v1 h => ?_)
        refine j_goto C 5 (by decide) dX6_isAlike_54 ?_
        refine j_lv [2, 3, 4, 1, 0] rfl ?_
        exact ih5 l1 l2 s0 v1 h
      have J49 : ∀ (l1 : Int) (l2 : Int) (l4 : Int), F_X6_isAlike_b49 mod_places mod_marks ag5 l1 l2 l4 = some res → J p l e ({ frames := 0, cells := 0, slots := 0, locals := 0 } : Room) s m args below meth c D A 5 Q 0 0 (mW b gm mod_thrown mod_places mod_firings mod_fired mod_logged mod_tokens mod_weights mod_logs mod_marks mod_whence mod_by mod_leads mod_comes mod_costs mod_next mod_found) 49 [(0, .ref (b 0)), (1, .int (vI l1)), (2, .int (vI l2)), (4, .int (vI l4))] [] := by
        intro l1 l2 l4 h
        unfold F_X6_isAlike_b49 at h
        refine j_iconst C dX6_isAlike_49 ?_
        exact J50 l1 l2 l4 0 h
      unfold F_X6_isAlike_b5_body at h
      refine j_iload C 4 rfl dX6_isAlike_5 ?_
      refine j_aload_n C 0 rfl rfl dX6_isAlike_7 ?_
      refine g_X6_48 C (v := .int (vI mod_places)) 0 rfl rfl dX6_isAlike_8 ?_
      refine j_icmp_ge C h 57 (by decide) dX6_isAlike_11 (fun c9 h => ?_) (fun c9 h => ?_)
      · refine j_iload_n C 3 rfl rfl dX6_isAlike_57 ?_
        obtain ⟨hz2, h⟩ := G_of h
        cases h
        exact RET _ _ hz2 dX6_isAlike_58
      · refine j_iload_n C 3 rfl rfl dX6_isAlike_14 ?_
        refine j_if_eq C h 49 (by decide) dX6_isAlike_15 (fun c8 h => ?_) (fun c8 h => ?_)
        · refine j_lv [0, 1, 2, 4] rfl ?_
          exact J49 l1 l2 l4 h
        · refine j_aload_n C 0 rfl rfl dX6_isAlike_18 ?_
          refine g_X6_19 C (v := .ref (b 4)) 0 rfl rfl dX6_isAlike_19 ?_
          refine j_bipush C (by decide) dX6_isAlike_22 ?_
          refine j_iload_n C 1 rfl rfl dX6_isAlike_24 ?_
          refine j_imul C dX6_isAlike_25 ?_
          refine j_iload C 4 rfl dX6_isAlike_26 ?_
          refine j_iadd C dX6_isAlike_28 ?_
          refine j_nm h (fun v3 h => ?_)
          refine j_iald C 4 3 rfl rfl (Nat.le_of_ble_eq_true rfl) h dX6_isAlike_29 (fun v4 h => ?_)
          refine j_aload_n C 0 rfl rfl dX6_isAlike_30 ?_
          refine g_X6_19 C (v := .ref (b 4)) 0 rfl rfl dX6_isAlike_31 ?_
          refine j_bipush C (by decide) dX6_isAlike_34 ?_
          refine j_iload_n C 2 rfl rfl dX6_isAlike_36 ?_
          refine j_imul C dX6_isAlike_37 ?_
          refine j_iload C 4 rfl dX6_isAlike_38 ?_
          refine j_iadd C dX6_isAlike_40 ?_
          refine j_nm h (fun v5 h => ?_)
          refine j_iald C 4 3 rfl rfl (Nat.le_of_ble_eq_true rfl) h dX6_isAlike_41 (fun v6 h => ?_)
          refine j_icmp_ne C h 49 (by decide) dX6_isAlike_42 (fun c7 h => ?_) (fun c7 h => ?_)
          · refine j_lv [0, 1, 2, 4] rfl ?_
            exact J49 l1 l2 l4 h
          · refine j_iconst C dX6_isAlike_45 ?_
            refine j_goto C 50 (by decide) dX6_isAlike_46 ?_
            refine j_lv [0, 1, 2, 4] rfl ?_
            exact J50 l1 l2 l4 1 h
  unfold F_X6_isAlike at h
  refine j_iconst C dX6_isAlike_0 ?_
  refine j_istore_n C [(3, .int (vI 1)), (0, .ref (b 0)), (1, .int (vI x1)), (2, .int (vI x2))] rfl rfl (by decide) dX6_isAlike_1 ?_
  refine j_iconst C dX6_isAlike_2 ?_
  refine j_istore C [(4, .int (vI 0)), (3, .int (vI 1)), (0, .ref (b 0)), (1, .int (vI x1)), (2, .int (vI x2))] rfl (by decide) dX6_isAlike_3 ?_
  refine j_lv [2, 3, 4, 1, 0] rfl ?_
  exact J5 NN x1 x2 1 0 h
theorem c_X6_isAlike (l : Launch) (D : va_G) (b : Nat → Nat) (gm : Nat → ClassId) (mod_thrown : Int) (mod_places : Int) (mod_firings : Int) (mod_fired : Int) (mod_logged : Int) (mod_tokens : Nat → Int) (mod_weights : Nat → Int) (mod_logs : Nat → Int) (mod_marks : Nat → Int) (mod_whence : Nat → Int) (mod_by : Nat → Int) (mod_leads : Nat → Int) (mod_comes : Nat → Int) (mod_costs : Nat → Int) (mod_next : Nat → Int) (mod_found : Nat → Int) (x1 : Int) (x2 : Int) (res : Int) (h : F_X6_isAlike x1 x2 mod_places mod_marks = some res) : Kt l yX6_isAlike cX6_isAlike 5 (some .boolean) ({ frames := 0, cells := 0, slots := 0, locals := 0 } : Room) D (mT gm) [.ref (b 0), .int (vI x1), .int (vI x2)] (mW b gm mod_thrown mod_places mod_firings mod_fired mod_logged mod_tokens mod_weights mod_logs mod_marks mod_whence mod_by mod_leads mod_comes mod_costs mod_next mod_found) (mW b gm mod_thrown mod_places mod_firings mod_fired mod_logged mod_tokens mod_weights mod_logs mod_marks mod_whence mod_by mod_leads mod_comes mod_costs mod_next mod_found) (some (.int (vI res))) :=
  kt_z rfl (by decide +kernel) (Nat.le_of_ble_eq_true rfl) (fun C RET => k_X6_isAlike C x1 x2 res h RET)
set_option maxRecDepth 100000 in
set_option maxHeartbeats 4000000 in
theorem k_X6_findAfter {b : Nat → Nat} {gm : Nat → ClassId} {mod_thrown : Int} {mod_places : Int} {mod_firings : Int} {mod_fired : Int} {mod_logged : Int} {mod_tokens : Nat → Int} {mod_weights : Nat → Int} {mod_logs : Nat → Int} {mod_marks : Nat → Int} {mod_whence : Nat → Int} {mod_by : Nat → Int} {mod_leads : Nat → Int} {mod_comes : Nat → Int} {mod_costs : Nat → Int} {mod_next : Nat → Int} {mod_found : Nat → Int} (C : JC p s m args meth c cX6_findAfter 5 "MarkingHallModel" D (mT gm) A) (x1 : Int) (x2 : Int) (x3 : Int) (res : Int × (Nat → Int)) (h : F_X6_findAfter x1 x2 x3 mod_places mod_weights mod_marks = some res) (RET : ∀ (pc : Nat) (lv : List (Nat × Value)), decode cX6_findAfter pc = .ok (.ireturn, 1) → J p l e ({ frames := 2, cells := 0, slots := 0, locals := 46 } : Room) s m args below meth c D A 5 Q 0 0 (mW b gm mod_thrown mod_places mod_firings mod_fired mod_logged mod_tokens mod_weights mod_logs res.2 mod_whence mod_by mod_leads mod_comes mod_costs mod_next mod_found) pc lv [.int (vI res.1)]) : J p l e ({ frames := 2, cells := 0, slots := 0, locals := 46 } : Room) s m args below meth c D A 5 Q 0 0 (mW b gm mod_thrown mod_places mod_firings mod_fired mod_logged mod_tokens mod_weights mod_logs mod_marks mod_whence mod_by mod_leads mod_comes mod_costs mod_next mod_found) 0 [(0, .ref (b 0)), (1, .int (vI x1)), (2, .int (vI x2)), (3, .int (vI x3))] [] := by
  have J52 : ∀ (n : Nat) (l3 : Int) (l4 : Int) (mod_marks : Nat → Int), F_X6_findAfter_b52 mod_places mod_weights n l3 l4 mod_marks = some res → J p l e ({ frames := 2, cells := 0, slots := 0, locals := 46 } : Room) s m args below meth c D A 5 Q 0 0 (mW b gm mod_thrown mod_places mod_firings mod_fired mod_logged mod_tokens mod_weights mod_logs mod_marks mod_whence mod_by mod_leads mod_comes mod_costs mod_next mod_found) 52 [(0, .ref (b 0)), (3, .int (vI l3)), (4, .int (vI l4))] [] := by
    intro n
    induction n with
    | zero => intro l3 l4 mod_marks h; exact no_h h
    | succ n ih52 =>
      intro l3 l4 mod_marks h
      replace h : F_X6_findAfter_b52_body mod_places mod_weights (F_X6_findAfter_b52 mod_places mod_weights n) l3 l4 mod_marks = some res := h
      generalize F_X6_findAfter_b52 mod_places mod_weights n = ag52 at ih52 h
      unfold F_X6_findAfter_b52_body at h
      refine j_aload_n C 0 rfl rfl dX6_findAfter_52 ?_
      refine j_iload C 2 rfl dX6_findAfter_53 ?_
      refine j_iload_n C 1 rfl rfl dX6_findAfter_55 ?_
      obtain ⟨r1, hr1, h⟩ := Ob_of h
      refine q_X6_85 C (wc := (mW b gm mod_thrown mod_places mod_firings mod_fired mod_logged mod_tokens mod_weights mod_logs mod_marks mod_whence mod_by mod_leads mod_comes mod_costs mod_next mod_found)) (wc' := (mW b gm mod_thrown mod_places mod_firings mod_fired mod_logged mod_tokens mod_weights mod_logs mod_marks mod_whence mod_by mod_leads mod_comes mod_costs mod_next mod_found)) (c_X6_isAlike l D b gm mod_thrown mod_places mod_firings mod_fired mod_logged mod_tokens mod_weights mod_logs mod_marks mod_whence mod_by mod_leads mod_comes mod_costs mod_next mod_found l4 l3 r1 hr1) ⟨(Nat.le_of_ble_eq_true rfl), (Nat.le_of_ble_eq_true rfl)⟩ rfl rfl 0 rfl rfl (ww _) (ww _) rfl C.2.2.2.2.2.2.1 (Nat.le_of_ble_eq_true rfl) rfl rfl (Nat.zero_le _) (Nat.zero_le _) dX6_findAfter_56 ?_
      refine j_if_ne C h 68 (by decide) dX6_findAfter_59 (fun c3 h => ?_) (fun c3 h => ?_)
      · refine j_iload C 2 rfl dX6_findAfter_68 ?_
        cases h
        exact RET _ _ dX6_findAfter_70
      · refine j_iinc C 2 rfl (fun v => [(4, .int (vI v)), (0, .ref (b 0)), (3, .int (vI l3))]) (fun _ => rfl) (by decide) h dX6_findAfter_62 (fun v2 h => ?_)
        refine j_goto C 52 (by decide) dX6_findAfter_65 ?_
        refine j_lv [1, 2, 0] rfl ?_
        exact ih52 l3 v2 mod_marks h
  have J3 : ∀ (n : Nat) (l1 : Int) (l2 : Int) (l3 : Int) (l4 : Int) (mod_marks : Nat → Int), F_X6_findAfter_b3 mod_places mod_weights n l1 l2 l3 l4 mod_marks = some res → J p l e ({ frames := 2, cells := 0, slots := 0, locals := 46 } : Room) s m args below meth c D A 5 Q 0 0 (mW b gm mod_thrown mod_places mod_firings mod_fired mod_logged mod_tokens mod_weights mod_logs mod_marks mod_whence mod_by mod_leads mod_comes mod_costs mod_next mod_found) 3 [(0, .ref (b 0)), (1, .int (vI l1)), (2, .int (vI l2)), (3, .int (vI l3)), (4, .int (vI l4))] [] := by
    intro n
    induction n with
    | zero => intro l1 l2 l3 l4 mod_marks h; exact no_h h
    | succ n ih3 =>
      intro l1 l2 l3 l4 mod_marks h
      replace h : F_X6_findAfter_b3_body mod_places mod_weights (F_X6_findAfter_b3 mod_places mod_weights n) l1 l2 l3 l4 mod_marks = some res := h
      generalize F_X6_findAfter_b3 mod_places mod_weights n = ag3 at ih3 h
      unfold F_X6_findAfter_b3_body at h
      refine j_iload C 4 rfl dX6_findAfter_3 ?_
      refine j_aload_n C 0 rfl rfl dX6_findAfter_5 ?_
      refine g_X6_48 C (v := .int (vI mod_places)) 0 rfl rfl dX6_findAfter_6 ?_
      refine j_icmp_ge C h 49 (by decide) dX6_findAfter_9 (fun c10 h => ?_) (fun c10 h => ?_)
      · refine j_iconst C dX6_findAfter_49 ?_
        refine j_istore C [(4, .int (vI 0)), (0, .ref (b 0)), (1, .int (vI l1)), (2, .int (vI l2)), (3, .int (vI l3))] rfl (by decide) dX6_findAfter_50 ?_
        refine j_lv [1, 4, 0] rfl ?_
        exact J52 NN l3 0 mod_marks h
      · refine j_aload_n C 0 rfl rfl dX6_findAfter_12 ?_
        refine g_X6_19 C (v := .ref (b 4)) 0 rfl rfl dX6_findAfter_13 ?_
        refine j_bipush C (by decide) dX6_findAfter_16 ?_
        refine j_iload_n C 3 rfl rfl dX6_findAfter_18 ?_
        refine j_imul C dX6_findAfter_19 ?_
        refine j_iload C 4 rfl dX6_findAfter_20 ?_
        refine j_iadd C dX6_findAfter_22 ?_
        refine j_aload_n C 0 rfl rfl dX6_findAfter_23 ?_
        refine j_aload_n C 0 rfl rfl dX6_findAfter_24 ?_
        refine g_X6_19 C (v := .ref (b 4)) 0 rfl rfl dX6_findAfter_25 ?_
        refine j_bipush C (by decide) dX6_findAfter_28 ?_
        refine j_iload_n C 1 rfl rfl dX6_findAfter_30 ?_
        refine j_imul C dX6_findAfter_31 ?_
        refine j_iload C 4 rfl dX6_findAfter_32 ?_
        refine j_iadd C dX6_findAfter_34 ?_
        refine j_nm h (fun v4 h => ?_)
        refine j_iald C 4 3 rfl rfl (Nat.le_of_ble_eq_true rfl) h dX6_findAfter_35 (fun v5 h => ?_)
        refine j_iload_n C 2 rfl rfl dX6_findAfter_36 ?_
        refine j_iload C 4 rfl dX6_findAfter_37 ?_
        obtain ⟨r6, hr6, h⟩ := Ob_of h
        refine q_X6_72 C (wc := (mW b gm mod_thrown mod_places mod_firings mod_fired mod_logged mod_tokens mod_weights mod_logs mod_marks mod_whence mod_by mod_leads mod_comes mod_costs mod_next mod_found)) (wc' := (mW b gm mod_thrown mod_places mod_firings mod_fired mod_logged mod_tokens mod_weights mod_logs mod_marks mod_whence mod_by mod_leads mod_comes mod_costs mod_next mod_found)) (c_X6_after l D b gm mod_thrown mod_places mod_firings mod_fired mod_logged mod_tokens mod_weights mod_logs mod_marks mod_whence mod_by mod_leads mod_comes mod_costs mod_next mod_found v5 l2 l4 r6 hr6) ⟨(Nat.le_of_ble_eq_true rfl), (Nat.le_of_ble_eq_true rfl)⟩ rfl rfl 0 rfl rfl (ww _) (ww _) rfl C.2.2.2.2.2.2.1 (Nat.le_of_ble_eq_true rfl) rfl rfl (Nat.zero_le _) (Nat.zero_le _) dX6_findAfter_39 ?_
        refine j_nm2 h (fun v7 h => ?_)
        refine j_iast C 4 3 rfl rfl (Nat.le_of_ble_eq_true rfl) (fun f' => (mW b gm mod_thrown mod_places mod_firings mod_fired mod_logged mod_tokens mod_weights mod_logs f' mod_whence mod_by mod_leads mod_comes mod_costs mod_next mod_found)) (fun _ => rfl) h dX6_findAfter_42 (fun f8 h => ?_)
        refine j_iinc C 4 rfl (fun v => [(4, .int (vI v)), (0, .ref (b 0)), (1, .int (vI l1)), (2, .int (vI l2)), (3, .int (vI l3))]) (fun _ => rfl) (by decide) h dX6_findAfter_43 (fun v9 h => ?_)
        refine j_goto C 3 (by decide) dX6_findAfter_46 ?_
        refine j_lv [1, 2, 3, 4, 0] rfl ?_
        exact ih3 l1 l2 l3 v9 f8 h
  unfold F_X6_findAfter at h
  refine j_iconst C dX6_findAfter_0 ?_
  refine j_istore C [(4, .int (vI 0)), (0, .ref (b 0)), (1, .int (vI x1)), (2, .int (vI x2)), (3, .int (vI x3))] rfl (by decide) dX6_findAfter_1 ?_
  refine j_lv [1, 2, 3, 4, 0] rfl ?_
  exact J3 NN x1 x2 x3 0 mod_marks h
theorem c_X6_findAfter (l : Launch) (D : va_G) (b : Nat → Nat) (gm : Nat → ClassId) (mod_thrown : Int) (mod_places : Int) (mod_firings : Int) (mod_fired : Int) (mod_logged : Int) (mod_tokens : Nat → Int) (mod_weights : Nat → Int) (mod_logs : Nat → Int) (mod_marks : Nat → Int) (mod_whence : Nat → Int) (mod_by : Nat → Int) (mod_leads : Nat → Int) (mod_comes : Nat → Int) (mod_costs : Nat → Int) (mod_next : Nat → Int) (mod_found : Nat → Int) (x1 : Int) (x2 : Int) (x3 : Int) (res : Int × (Nat → Int)) (h : F_X6_findAfter x1 x2 x3 mod_places mod_weights mod_marks = some res) : Kt l yX6_findAfter cX6_findAfter 5 (some .int) ({ frames := 2, cells := 0, slots := 0, locals := 46 } : Room) D (mT gm) [.ref (b 0), .int (vI x1), .int (vI x2), .int (vI x3)] (mW b gm mod_thrown mod_places mod_firings mod_fired mod_logged mod_tokens mod_weights mod_logs mod_marks mod_whence mod_by mod_leads mod_comes mod_costs mod_next mod_found) (mW b gm mod_thrown mod_places mod_firings mod_fired mod_logged mod_tokens mod_weights mod_logs res.2 mod_whence mod_by mod_leads mod_comes mod_costs mod_next mod_found) (some (.int (vI res.1))) :=
  kt_i (ty := .int) rfl rfl (by decide +kernel) (Nat.le_of_ble_eq_true rfl) (fun C RET => k_X6_findAfter C x1 x2 x3 res h RET)
set_option maxRecDepth 100000 in
set_option maxHeartbeats 4000000 in
theorem k_X6_findAll {b : Nat → Nat} {gm : Nat → ClassId} {mod_thrown : Int} {mod_places : Int} {mod_firings : Int} {mod_fired : Int} {mod_logged : Int} {mod_tokens : Nat → Int} {mod_weights : Nat → Int} {mod_logs : Nat → Int} {mod_marks : Nat → Int} {mod_whence : Nat → Int} {mod_by : Nat → Int} {mod_leads : Nat → Int} {mod_comes : Nat → Int} {mod_costs : Nat → Int} {mod_next : Nat → Int} {mod_found : Nat → Int} (C : JC p s m args meth c cX6_findAll 6 "MarkingHallModel" D (mT gm) A)  (res : Int × (Nat → Int) × (Nat → Int) × (Nat → Int) × (Nat → Int)) (h : F_X6_findAll mod_places mod_firings mod_tokens mod_weights mod_marks mod_whence mod_by mod_leads = some res) (RET : ∀ (pc : Nat) (lv : List (Nat × Value)), decode cX6_findAll pc = .ok (.ireturn, 1) → J p l e ({ frames := 3, cells := 0, slots := 0, locals := 72 } : Room) s m args below meth c D A 6 Q 0 0 (mW b gm mod_thrown mod_places mod_firings mod_fired mod_logged mod_tokens mod_weights mod_logs res.2.1 res.2.2.1 res.2.2.2.1 res.2.2.2.2 mod_comes mod_costs mod_next mod_found) pc lv [.int (vI res.1)]) : J p l e ({ frames := 3, cells := 0, slots := 0, locals := 72 } : Room) s m args below meth c D A 6 Q 0 0 (mW b gm mod_thrown mod_places mod_firings mod_fired mod_logged mod_tokens mod_weights mod_logs mod_marks mod_whence mod_by mod_leads mod_comes mod_costs mod_next mod_found) 0 [(0, .ref (b 0))] [] := by
  have J15 : ∀ (n : Nat) (l1 : Int) (l2 : Int) (mod_marks : Nat → Int) (mod_whence : Nat → Int) (mod_by : Nat → Int) (mod_leads : Nat → Int), F_X6_findAll_b15 mod_places mod_firings mod_tokens mod_weights n l1 l2 mod_marks mod_whence mod_by mod_leads = some res → J p l e ({ frames := 3, cells := 0, slots := 0, locals := 72 } : Room) s m args below meth c D A 6 Q 0 0 (mW b gm mod_thrown mod_places mod_firings mod_fired mod_logged mod_tokens mod_weights mod_logs mod_marks mod_whence mod_by mod_leads mod_comes mod_costs mod_next mod_found) 15 [(0, .ref (b 0)), (1, .int (vI l1)), (2, .int (vI l2))] [] := by
    intro n
    induction n with
    | zero => intro l1 l2 mod_marks mod_whence mod_by mod_leads h; exact no_h h
    | succ n ih15 =>
      intro l1 l2 mod_marks mod_whence mod_by mod_leads h
      replace h : F_X6_findAll_b15_body mod_places mod_firings mod_tokens mod_weights (F_X6_findAll_b15 mod_places mod_firings mod_tokens mod_weights n) l1 l2 mod_marks mod_whence mod_by mod_leads = some res := h
      generalize F_X6_findAll_b15 mod_places mod_firings mod_tokens mod_weights n = ag15 at ih15 h
      have J22 : ∀ (n : Nat) (l1 : Int) (l2 : Int) (l3 : Int) (mod_marks : Nat → Int) (mod_whence : Nat → Int) (mod_by : Nat → Int) (mod_leads : Nat → Int), F_X6_findAll_b22 mod_places mod_firings mod_tokens mod_weights ag15 n l1 l2 l3 mod_marks mod_whence mod_by mod_leads = some res → J p l e ({ frames := 3, cells := 0, slots := 0, locals := 72 } : Room) s m args below meth c D A 6 Q 0 0 (mW b gm mod_thrown mod_places mod_firings mod_fired mod_logged mod_tokens mod_weights mod_logs mod_marks mod_whence mod_by mod_leads mod_comes mod_costs mod_next mod_found) 22 [(0, .ref (b 0)), (1, .int (vI l1)), (2, .int (vI l2)), (3, .int (vI l3))] [] := by
        intro n
        induction n with
        | zero => intro l1 l2 l3 mod_marks mod_whence mod_by mod_leads h; exact no_h h
        | succ n ih22 =>
          intro l1 l2 l3 mod_marks mod_whence mod_by mod_leads h
          replace h : F_X6_findAll_b22_body mod_places mod_firings mod_tokens mod_weights ag15 (F_X6_findAll_b22 mod_places mod_firings mod_tokens mod_weights ag15 n) l1 l2 l3 mod_marks mod_whence mod_by mod_leads = some res := h
          generalize F_X6_findAll_b22 mod_places mod_firings mod_tokens mod_weights ag15 n = ag22 at ih22 h
          have J102 : ∀ (l1 : Int) (l2 : Int) (l3 : Int) (mod_marks : Nat → Int) (mod_whence : Nat → Int) (mod_by : Nat → Int) (mod_leads : Nat → Int), F_X6_findAll_b102 mod_places mod_firings mod_tokens mod_weights ag15 ag22 l1 l2 l3 mod_marks mod_whence mod_by mod_leads = some res → J p l e ({ frames := 3, cells := 0, slots := 0, locals := 72 } : Room) s m args below meth c D A 6 Q 0 0 (mW b gm mod_thrown mod_places mod_firings mod_fired mod_logged mod_tokens mod_weights mod_logs mod_marks mod_whence mod_by mod_leads mod_comes mod_costs mod_next mod_found) 102 [(0, .ref (b 0)), (1, .int (vI l1)), (2, .int (vI l2)), (3, .int (vI l3))] [] := by
            intro l1 l2 l3 mod_marks mod_whence mod_by mod_leads h
            unfold F_X6_findAll_b102 at h
            refine j_iinc C 3 rfl (fun v => [(3, .int (vI v)), (0, .ref (b 0)), (1, .int (vI l1)), (2, .int (vI l2))]) (fun _ => rfl) (by decide) h dX6_findAll_102 (fun v1 h => ?_)
            refine j_goto C 22 (by decide) dX6_findAll_105 ?_
            refine j_lv [1, 2, 3, 0] rfl ?_
            exact ih22 l1 l2 v1 mod_marks mod_whence mod_by mod_leads h
          have J54 : ∀ (l1 : Int) (l2 : Int) (l3 : Int) (s0 : Int) (mod_marks : Nat → Int) (mod_whence : Nat → Int) (mod_by : Nat → Int) (mod_leads : Nat → Int), F_X6_findAll_b54 mod_places mod_firings mod_tokens mod_weights ag15 ag22 l1 l2 l3 s0 mod_marks mod_whence mod_by mod_leads = some res → J p l e ({ frames := 3, cells := 0, slots := 0, locals := 72 } : Room) s m args below meth c D A 6 Q 0 0 (mW b gm mod_thrown mod_places mod_firings mod_fired mod_logged mod_tokens mod_weights mod_logs mod_marks mod_whence mod_by mod_leads mod_comes mod_costs mod_next mod_found) 54 [(0, .ref (b 0)), (1, .int (vI l1)), (2, .int (vI l2)), (3, .int (vI l3))] [.int (vI s0)] := by
            intro l1 l2 l3 s0 mod_marks mod_whence mod_by mod_leads h
            unfold F_X6_findAll_b54 at h
            refine j_istore C [(5, .int (vI s0)), (0, .ref (b 0)), (1, .int (vI l1)), (2, .int (vI l2)), (3, .int (vI l3))] rfl (by decide) dX6_findAll_54 ?_
            refine j_iload C 0 rfl dX6_findAll_56 ?_
            refine j_sipush C (by decide) dX6_findAll_58 ?_
            refine j_icmp_ne C h 66 (by decide) dX6_findAll_61 (fun c8 h => ?_) (fun c8 h => ?_)
            · refine j_aload_n C 1 rfl rfl dX6_findAll_66 ?_
              refine g_X6_28 C (v := .ref (b 7)) 0 rfl rfl dX6_findAll_67 ?_
              refine j_bipush C (by decide) dX6_findAll_70 ?_
              refine j_iload_n C 3 rfl rfl dX6_findAll_72 ?_
              refine j_imul C dX6_findAll_73 ?_
              refine j_iload_n C 4 rfl rfl dX6_findAll_74 ?_
              refine j_iadd C dX6_findAll_75 ?_
              refine j_iload C 0 rfl dX6_findAll_76 ?_
              refine j_nm2 h (fun v2 h => ?_)
              refine j_iast C 7 6 rfl rfl (Nat.le_of_ble_eq_true rfl) (fun f' => (mW b gm mod_thrown mod_places mod_firings mod_fired mod_logged mod_tokens mod_weights mod_logs mod_marks mod_whence mod_by f' mod_comes mod_costs mod_next mod_found)) (fun _ => rfl) h dX6_findAll_78 (fun f3 h => ?_)
              refine j_iload C 0 rfl dX6_findAll_79 ?_
              refine j_iload_n C 2 rfl rfl dX6_findAll_81 ?_
              refine j_icmp_ne C h 102 (by decide) dX6_findAll_82 (fun c7 h => ?_) (fun c7 h => ?_)
              · refine j_lv [1, 2, 3, 4] rfl ?_
                exact J102 l1 l2 l3 mod_marks mod_whence mod_by f3 h
              · refine j_aload_n C 1 rfl rfl dX6_findAll_85 ?_
                refine g_X6_22 C (v := .ref (b 5)) 0 rfl rfl dX6_findAll_86 ?_
                refine j_iload_n C 2 rfl rfl dX6_findAll_89 ?_
                refine j_iload_n C 3 rfl rfl dX6_findAll_90 ?_
                refine j_iast C 5 4 rfl rfl (Nat.le_of_ble_eq_true rfl) (fun f' => (mW b gm mod_thrown mod_places mod_firings mod_fired mod_logged mod_tokens mod_weights mod_logs mod_marks f' mod_by f3 mod_comes mod_costs mod_next mod_found)) (fun _ => rfl) h dX6_findAll_91 (fun f4 h => ?_)
                refine j_aload_n C 1 rfl rfl dX6_findAll_92 ?_
                refine g_X6_25 C (v := .ref (b 6)) 0 rfl rfl dX6_findAll_93 ?_
                refine j_iload_n C 2 rfl rfl dX6_findAll_96 ?_
                refine j_iload_n C 4 rfl rfl dX6_findAll_97 ?_
                refine j_iast C 6 5 rfl rfl (Nat.le_of_ble_eq_true rfl) (fun f' => (mW b gm mod_thrown mod_places mod_firings mod_fired mod_logged mod_tokens mod_weights mod_logs mod_marks f4 f' f3 mod_comes mod_costs mod_next mod_found)) (fun _ => rfl) h dX6_findAll_98 (fun f5 h => ?_)
                refine j_iinc C 2 rfl (fun v => [(1, .int (vI v)), (5, .int (vI s0)), (0, .ref (b 0)), (2, .int (vI l2)), (3, .int (vI l3))]) (fun _ => rfl) (by decide) h dX6_findAll_99 (fun v6 h => ?_)
                refine j_lv [2, 0, 3, 4] rfl ?_
                exact J102 v6 l2 l3 mod_marks f4 f5 f3 h
            · refine j_iconst C dX6_findAll_64 ?_
              cases h
              exact RET _ _ dX6_findAll_65
          unfold F_X6_findAll_b22_body at h
          refine j_iload_n C 3 rfl rfl dX6_findAll_22 ?_
          refine j_aload_n C 0 rfl rfl dX6_findAll_23 ?_
          refine g_X6_55 C (v := .int (vI mod_firings)) 0 rfl rfl dX6_findAll_24 ?_
          refine j_icmp_ge C h 108 (by decide) dX6_findAll_27 (fun c13 h => ?_) (fun c13 h => ?_)
          · refine j_iinc C 2 rfl (fun v => [(2, .int (vI v)), (0, .ref (b 0)), (1, .int (vI l1)), (3, .int (vI l3))]) (fun _ => rfl) (by decide) h dX6_findAll_108 (fun v9 h => ?_)
            refine j_goto C 15 (by decide) dX6_findAll_111 ?_
            refine j_lv [1, 2, 0] rfl ?_
            exact ih15 l1 v9 mod_marks mod_whence mod_by mod_leads h
          · refine j_aload_n C 0 rfl rfl dX6_findAll_30 ?_
            refine j_iload_n C 2 rfl rfl dX6_findAll_31 ?_
            refine j_iload_n C 3 rfl rfl dX6_findAll_32 ?_
            obtain ⟨r10, hr10, h⟩ := Ob_of h
            refine q_X6_78 C (wc := (mW b gm mod_thrown mod_places mod_firings mod_fired mod_logged mod_tokens mod_weights mod_logs mod_marks mod_whence mod_by mod_leads mod_comes mod_costs mod_next mod_found)) (wc' := (mW b gm mod_thrown mod_places mod_firings mod_fired mod_logged mod_tokens mod_weights mod_logs mod_marks mod_whence mod_by mod_leads mod_comes mod_costs mod_next mod_found)) (c_X6_canIn l D b gm mod_thrown mod_places mod_firings mod_fired mod_logged mod_tokens mod_weights mod_logs mod_marks mod_whence mod_by mod_leads mod_comes mod_costs mod_next mod_found l2 l3 r10 hr10) ⟨(Nat.le_of_ble_eq_true rfl), (Nat.le_of_ble_eq_true rfl)⟩ rfl rfl 0 rfl rfl (ww _) (ww _) rfl C.2.2.2.2.2.2.1 (Nat.le_of_ble_eq_true rfl) rfl rfl (Nat.zero_le _) (Nat.zero_le _) dX6_findAll_33 ?_
            refine j_istore C [(4, .int (vI r10)), (0, .ref (b 0)), (1, .int (vI l1)), (2, .int (vI l2)), (3, .int (vI l3))] rfl (by decide) dX6_findAll_36 ?_
            refine j_iload C 0 rfl dX6_findAll_38 ?_
            refine j_if_eq C h 53 (by decide) dX6_findAll_40 (fun c12 h => ?_) (fun c12 h => ?_)
            · refine j_iconst C dX6_findAll_53 ?_
              refine j_lv [1, 2, 3, 4] rfl ?_
              exact J54 l1 l2 l3 (-1) mod_marks mod_whence mod_by mod_leads h
            · refine j_aload_n C 1 rfl rfl dX6_findAll_43 ?_
              refine j_iload_n C 3 rfl rfl dX6_findAll_44 ?_
              refine j_iload_n C 4 rfl rfl dX6_findAll_45 ?_
              refine j_iload_n C 2 rfl rfl dX6_findAll_46 ?_
              obtain ⟨r11, hr11, h⟩ := Ob_of h
              refine q_X6_88 C (wc := (mW b gm mod_thrown mod_places mod_firings mod_fired mod_logged mod_tokens mod_weights mod_logs mod_marks mod_whence mod_by mod_leads mod_comes mod_costs mod_next mod_found)) (wc' := (mW b gm mod_thrown mod_places mod_firings mod_fired mod_logged mod_tokens mod_weights mod_logs r11.2 mod_whence mod_by mod_leads mod_comes mod_costs mod_next mod_found)) (c_X6_findAfter l D b gm mod_thrown mod_places mod_firings mod_fired mod_logged mod_tokens mod_weights mod_logs mod_marks mod_whence mod_by mod_leads mod_comes mod_costs mod_next mod_found l2 l3 l1 r11 hr11) ⟨(Nat.le_of_ble_eq_true rfl), (Nat.le_of_ble_eq_true rfl)⟩ rfl rfl 0 rfl rfl (ww _) (ww _) mW_ha C.2.2.2.2.2.2.1 (Nat.le_of_ble_eq_true rfl) rfl rfl (Nat.zero_le _) (Nat.zero_le _) dX6_findAll_47 ?_
              refine j_goto C 54 (by decide) dX6_findAll_50 ?_
              refine j_lv [1, 2, 3, 4] rfl ?_
              exact J54 l1 l2 l3 r11.1 r11.2 mod_whence mod_by mod_leads h
      unfold F_X6_findAll_b15_body at h
      refine j_iload_n C 2 rfl rfl dX6_findAll_15 ?_
      refine j_iload_n C 1 rfl rfl dX6_findAll_16 ?_
      refine j_icmp_ge C h 114 (by decide) dX6_findAll_17 (fun c14 h => ?_) (fun c14 h => ?_)
      · refine j_iload_n C 1 rfl rfl dX6_findAll_114 ?_
        cases h
        exact RET _ _ dX6_findAll_115
      · refine j_iconst C dX6_findAll_20 ?_
        refine j_istore_n C [(3, .int (vI 0)), (0, .ref (b 0)), (1, .int (vI l1)), (2, .int (vI l2))] rfl rfl (by decide) dX6_findAll_21 ?_
        refine j_lv [1, 2, 3, 0] rfl ?_
        exact J22 NN l1 l2 0 mod_marks mod_whence mod_by mod_leads h
  unfold F_X6_findAll at h
  refine j_aload_n C 0 rfl rfl dX6_findAll_0 ?_
  obtain ⟨r15, hr15, h⟩ := Ob_of h
  refine q_X6_75 C (wc := (mW b gm mod_thrown mod_places mod_firings mod_fired mod_logged mod_tokens mod_weights mod_logs mod_marks mod_whence mod_by mod_leads mod_comes mod_costs mod_next mod_found)) (wc' := (mW b gm mod_thrown mod_places mod_firings mod_fired mod_logged mod_tokens mod_weights mod_logs r15 mod_whence mod_by mod_leads mod_comes mod_costs mod_next mod_found)) (c_X6_layNow l D b gm mod_thrown mod_places mod_firings mod_fired mod_logged mod_tokens mod_weights mod_logs mod_marks mod_whence mod_by mod_leads mod_comes mod_costs mod_next mod_found r15 hr15) ⟨(Nat.le_of_ble_eq_true rfl), (Nat.le_of_ble_eq_true rfl)⟩ rfl rfl 0 rfl rfl (ww _) (ww _) mW_ha C.2.2.2.2.2.2.1 (Nat.le_of_ble_eq_true rfl) rfl rfl (Nat.zero_le _) (Nat.zero_le _) dX6_findAll_1 ?_
  refine j_aload_n C 0 rfl rfl dX6_findAll_4 ?_
  refine g_X6_22 C (v := .ref (b 5)) 0 rfl rfl dX6_findAll_5 ?_
  refine j_iconst C dX6_findAll_8 ?_
  refine j_iconst C dX6_findAll_9 ?_
  refine j_iast C 5 4 rfl rfl (Nat.le_of_ble_eq_true rfl) (fun f' => (mW b gm mod_thrown mod_places mod_firings mod_fired mod_logged mod_tokens mod_weights mod_logs r15 f' mod_by mod_leads mod_comes mod_costs mod_next mod_found)) (fun _ => rfl) h dX6_findAll_10 (fun f16 h => ?_)
  refine j_iconst C dX6_findAll_11 ?_
  refine j_istore_n C [(1, .int (vI 1)), (0, .ref (b 0))] rfl rfl (by decide) dX6_findAll_12 ?_
  refine j_iconst C dX6_findAll_13 ?_
  refine j_istore_n C [(2, .int (vI 0)), (1, .int (vI 1)), (0, .ref (b 0))] rfl rfl (by decide) dX6_findAll_14 ?_
  refine j_lv [2, 1, 0] rfl ?_
  exact J15 NN 1 0 r15 f16 mod_by mod_leads h
theorem c_X6_findAll (l : Launch) (D : va_G) (b : Nat → Nat) (gm : Nat → ClassId) (mod_thrown : Int) (mod_places : Int) (mod_firings : Int) (mod_fired : Int) (mod_logged : Int) (mod_tokens : Nat → Int) (mod_weights : Nat → Int) (mod_logs : Nat → Int) (mod_marks : Nat → Int) (mod_whence : Nat → Int) (mod_by : Nat → Int) (mod_leads : Nat → Int) (mod_comes : Nat → Int) (mod_costs : Nat → Int) (mod_next : Nat → Int) (mod_found : Nat → Int)  (res : Int × (Nat → Int) × (Nat → Int) × (Nat → Int) × (Nat → Int)) (h : F_X6_findAll mod_places mod_firings mod_tokens mod_weights mod_marks mod_whence mod_by mod_leads = some res) : Kt l yX6_findAll cX6_findAll 6 (some .int) ({ frames := 3, cells := 0, slots := 0, locals := 72 } : Room) D (mT gm) [.ref (b 0)] (mW b gm mod_thrown mod_places mod_firings mod_fired mod_logged mod_tokens mod_weights mod_logs mod_marks mod_whence mod_by mod_leads mod_comes mod_costs mod_next mod_found) (mW b gm mod_thrown mod_places mod_firings mod_fired mod_logged mod_tokens mod_weights mod_logs res.2.1 res.2.2.1 res.2.2.2.1 res.2.2.2.2 mod_comes mod_costs mod_next mod_found) (some (.int (vI res.1))) :=
  kt_i (ty := .int) rfl rfl (by decide +kernel) (Nat.le_of_ble_eq_true rfl) (fun C RET => k_X6_findAll C res h RET)
set_option maxRecDepth 100000 in
set_option maxHeartbeats 4000000 in
theorem k_X6_spread {b : Nat → Nat} {gm : Nat → ClassId} {mod_thrown : Int} {mod_places : Int} {mod_firings : Int} {mod_fired : Int} {mod_logged : Int} {mod_tokens : Nat → Int} {mod_weights : Nat → Int} {mod_logs : Nat → Int} {mod_marks : Nat → Int} {mod_whence : Nat → Int} {mod_by : Nat → Int} {mod_leads : Nat → Int} {mod_comes : Nat → Int} {mod_costs : Nat → Int} {mod_next : Nat → Int} {mod_found : Nat → Int} (C : JC p s m args meth c cX6_spread 6 "MarkingHallModel" D (mT gm) A) (x1 : Int) (res : (Nat → Int)) (h : F_X6_spread x1 mod_firings mod_leads mod_comes = some res) (RET : ∀ (pc : Nat) (lv : List (Nat × Value)), decode cX6_spread pc = .ok (.return_, 1) → J p l e ({ frames := 0, cells := 0, slots := 0, locals := 0 } : Room) s m args below meth c D A 6 Q 0 0 (mW b gm mod_thrown mod_places mod_firings mod_fired mod_logged mod_tokens mod_weights mod_logs mod_marks mod_whence mod_by mod_leads res mod_costs mod_next mod_found) pc lv []) : J p l e ({ frames := 0, cells := 0, slots := 0, locals := 0 } : Room) s m args below meth c D A 6 Q 0 0 (mW b gm mod_thrown mod_places mod_firings mod_fired mod_logged mod_tokens mod_weights mod_logs mod_marks mod_whence mod_by mod_leads mod_comes mod_costs mod_next mod_found) 0 [(0, .ref (b 0)), (1, .int (vI x1))] [] := by
  have J2 : ∀ (n : Nat) (l1 : Int) (l2 : Int) (mod_comes : Nat → Int), F_X6_spread_b2 mod_firings mod_leads n l1 l2 mod_comes = some res → J p l e ({ frames := 0, cells := 0, slots := 0, locals := 0 } : Room) s m args below meth c D A 6 Q 0 0 (mW b gm mod_thrown mod_places mod_firings mod_fired mod_logged mod_tokens mod_weights mod_logs mod_marks mod_whence mod_by mod_leads mod_comes mod_costs mod_next mod_found) 2 [(0, .ref (b 0)), (1, .int (vI l1)), (2, .int (vI l2))] [] := by
    intro n
    induction n with
    | zero => intro l1 l2 mod_comes h; exact no_h h
    | succ n ih2 =>
      intro l1 l2 mod_comes h
      replace h : F_X6_spread_b2_body mod_firings mod_leads (F_X6_spread_b2 mod_firings mod_leads n) l1 l2 mod_comes = some res := h
      generalize F_X6_spread_b2 mod_firings mod_leads n = ag2 at ih2 h
      have J10 : ∀ (n : Nat) (l1 : Int) (l2 : Int) (l3 : Int) (mod_comes : Nat → Int), F_X6_spread_b10 mod_firings mod_leads ag2 n l1 l2 l3 mod_comes = some res → J p l e ({ frames := 0, cells := 0, slots := 0, locals := 0 } : Room) s m args below meth c D A 6 Q 0 0 (mW b gm mod_thrown mod_places mod_firings mod_fired mod_logged mod_tokens mod_weights mod_logs mod_marks mod_whence mod_by mod_leads mod_comes mod_costs mod_next mod_found) 10 [(0, .ref (b 0)), (1, .int (vI l1)), (2, .int (vI l2)), (3, .int (vI l3))] [] := by
        intro n
        induction n with
        | zero => intro l1 l2 l3 mod_comes h; exact no_h h
        | succ n ih10 =>
          intro l1 l2 l3 mod_comes h
          replace h : F_X6_spread_b10_body mod_firings mod_leads ag2 (F_X6_spread_b10 mod_firings mod_leads ag2 n) l1 l2 l3 mod_comes = some res := h
          generalize F_X6_spread_b10 mod_firings mod_leads ag2 n = ag10 at ih10 h
          have J81 : ∀ (l1 : Int) (l2 : Int) (l3 : Int) (mod_comes : Nat → Int), F_X6_spread_b81 mod_firings mod_leads ag2 ag10 l1 l2 l3 mod_comes = some res → J p l e ({ frames := 0, cells := 0, slots := 0, locals := 0 } : Room) s m args below meth c D A 6 Q 0 0 (mW b gm mod_thrown mod_places mod_firings mod_fired mod_logged mod_tokens mod_weights mod_logs mod_marks mod_whence mod_by mod_leads mod_comes mod_costs mod_next mod_found) 81 [(0, .ref (b 0)), (1, .int (vI l1)), (2, .int (vI l2)), (3, .int (vI l3))] [] := by
            intro l1 l2 l3 mod_comes h
            unfold F_X6_spread_b81 at h
            refine j_iinc C 3 rfl (fun v => [(3, .int (vI v)), (0, .ref (b 0)), (1, .int (vI l1)), (2, .int (vI l2))]) (fun _ => rfl) (by decide) h dX6_spread_81 (fun v1 h => ?_)
            refine j_goto C 10 (by decide) dX6_spread_84 ?_
            refine j_lv [1, 2, 3, 0] rfl ?_
            exact ih10 l1 l2 v1 mod_comes h
          have J18 : ∀ (n : Nat) (l1 : Int) (l2 : Int) (l3 : Int) (l4 : Int) (mod_comes : Nat → Int), F_X6_spread_b18 mod_firings mod_leads ag2 ag10 n l1 l2 l3 l4 mod_comes = some res → J p l e ({ frames := 0, cells := 0, slots := 0, locals := 0 } : Room) s m args below meth c D A 6 Q 0 0 (mW b gm mod_thrown mod_places mod_firings mod_fired mod_logged mod_tokens mod_weights mod_logs mod_marks mod_whence mod_by mod_leads mod_comes mod_costs mod_next mod_found) 18 [(0, .ref (b 0)), (1, .int (vI l1)), (2, .int (vI l2)), (3, .int (vI l3)), (4, .int (vI l4))] [] := by
            intro n
            induction n with
            | zero => intro l1 l2 l3 l4 mod_comes h; exact no_h h
            | succ n ih18 =>
              intro l1 l2 l3 l4 mod_comes h
              replace h : F_X6_spread_b18_body mod_firings mod_leads ag2 ag10 (F_X6_spread_b18 mod_firings mod_leads ag2 ag10 n) l1 l2 l3 l4 mod_comes = some res := h
              generalize F_X6_spread_b18 mod_firings mod_leads ag2 ag10 n = ag18 at ih18 h
              have J75 : ∀ (l1 : Int) (l2 : Int) (l3 : Int) (l4 : Int) (mod_comes : Nat → Int), F_X6_spread_b75 mod_firings mod_leads ag2 ag10 ag18 l1 l2 l3 l4 mod_comes = some res → J p l e ({ frames := 0, cells := 0, slots := 0, locals := 0 } : Room) s m args below meth c D A 6 Q 0 0 (mW b gm mod_thrown mod_places mod_firings mod_fired mod_logged mod_tokens mod_weights mod_logs mod_marks mod_whence mod_by mod_leads mod_comes mod_costs mod_next mod_found) 75 [(0, .ref (b 0)), (1, .int (vI l1)), (2, .int (vI l2)), (3, .int (vI l3)), (4, .int (vI l4))] [] := by
                intro l1 l2 l3 l4 mod_comes h
                unfold F_X6_spread_b75 at h
                refine j_iinc C 4 rfl (fun v => [(4, .int (vI v)), (0, .ref (b 0)), (1, .int (vI l1)), (2, .int (vI l2)), (3, .int (vI l3))]) (fun _ => rfl) (by decide) h dX6_spread_75 (fun v2 h => ?_)
                refine j_goto C 18 (by decide) dX6_spread_78 ?_
                refine j_lv [1, 2, 3, 4, 0] rfl ?_
                exact ih18 l1 l2 l3 v2 mod_comes h
              unfold F_X6_spread_b18_body at h
              refine j_iload C 4 rfl dX6_spread_18 ?_
              refine j_aload_n C 0 rfl rfl dX6_spread_20 ?_
              refine g_X6_55 C (v := .int (vI mod_firings)) 0 rfl rfl dX6_spread_21 ?_
              refine j_icmp_ge C h 81 (by decide) dX6_spread_24 (fun c11 h => ?_) (fun c11 h => ?_)
              · refine j_lv [0, 1, 2, 3] rfl ?_
                exact J81 l1 l2 l3 mod_comes h
              · refine j_aload_n C 0 rfl rfl dX6_spread_27 ?_
                refine g_X6_31 C (v := .ref (b 8)) 0 rfl rfl dX6_spread_28 ?_
                refine j_iload_n C 3 rfl rfl dX6_spread_31 ?_
                refine j_zald C 8 7 rfl rfl (Nat.le_of_ble_eq_true rfl) h dX6_spread_32 (fun v3 h => ?_)
                refine j_if_ne C h 81 (by decide) dX6_spread_33 (fun c10 h => ?_) (fun c10 h => ?_)
                · refine j_lv [0, 1, 2, 3] rfl ?_
                  exact J81 l1 l2 l3 mod_comes h
                · refine j_aload_n C 0 rfl rfl dX6_spread_36 ?_
                  refine g_X6_28 C (v := .ref (b 7)) 0 rfl rfl dX6_spread_37 ?_
                  refine j_bipush C (by decide) dX6_spread_40 ?_
                  refine j_iload_n C 3 rfl rfl dX6_spread_42 ?_
                  refine j_imul C dX6_spread_43 ?_
                  refine j_iload C 4 rfl dX6_spread_44 ?_
                  refine j_iadd C dX6_spread_46 ?_
                  refine j_nm h (fun v4 h => ?_)
                  refine j_iald C 7 6 rfl rfl (Nat.le_of_ble_eq_true rfl) h dX6_spread_47 (fun v5 h => ?_)
                  refine j_istore C [(5, .int (vI v5)), (0, .ref (b 0)), (1, .int (vI l1)), (2, .int (vI l2)), (3, .int (vI l3)), (4, .int (vI l4))] rfl (by decide) dX6_spread_48 ?_
                  refine j_iload C 0 rfl dX6_spread_50 ?_
                  refine j_iconst C dX6_spread_52 ?_
                  refine j_icmp_eq C h 75 (by decide) dX6_spread_53 (fun c9 h => ?_) (fun c9 h => ?_)
                  · refine j_lv [1, 2, 3, 4, 5] rfl ?_
                    exact J75 l1 l2 l3 l4 mod_comes h
                  · refine j_aload_n C 1 rfl rfl dX6_spread_56 ?_
                    refine g_X6_31 C (v := .ref (b 8)) 0 rfl rfl dX6_spread_57 ?_
                    refine j_iload C 0 rfl dX6_spread_60 ?_
                    refine j_zald C 8 7 rfl rfl (Nat.le_of_ble_eq_true rfl) h dX6_spread_62 (fun v6 h => ?_)
                    refine j_if_eq C h 75 (by decide) dX6_spread_63 (fun c8 h => ?_) (fun c8 h => ?_)
                    · refine j_lv [1, 2, 3, 4, 5] rfl ?_
                      exact J75 l1 l2 l3 l4 mod_comes h
                    · refine j_aload_n C 1 rfl rfl dX6_spread_66 ?_
                      refine g_X6_31 C (v := .ref (b 8)) 0 rfl rfl dX6_spread_67 ?_
                      refine j_iload_n C 4 rfl rfl dX6_spread_70 ?_
                      refine j_iconst C dX6_spread_71 ?_
                      refine j_zast C 8 7 rfl rfl (Nat.le_of_ble_eq_true rfl) (fun f' => (mW b gm mod_thrown mod_places mod_firings mod_fired mod_logged mod_tokens mod_weights mod_logs mod_marks mod_whence mod_by mod_leads f' mod_costs mod_next mod_found)) (fun _ => rfl) h dX6_spread_72 (fun f7 h => ?_)
                      refine j_iconst C dX6_spread_73 ?_
                      refine j_istore_n C [(2, .int (vI 1)), (5, .int (vI v5)), (0, .ref (b 0)), (1, .int (vI l1)), (3, .int (vI l3)), (4, .int (vI l4))] rfl rfl (by decide) dX6_spread_74 ?_
                      refine j_lv [2, 3, 0, 4, 5] rfl ?_
                      exact J75 l1 1 l3 l4 f7 h
          unfold F_X6_spread_b10_body at h
          refine j_iload_n C 3 rfl rfl dX6_spread_10 ?_
          refine j_iload_n C 1 rfl rfl dX6_spread_11 ?_
          refine j_icmp_ge C h 87 (by decide) dX6_spread_12 (fun c12 h => ?_) (fun c12 h => ?_)
          · refine j_goto C 2 (by decide) dX6_spread_87 ?_
            refine j_lv [0, 1, 2] rfl ?_
            exact ih2 l1 l2 mod_comes h
          · refine j_iconst C dX6_spread_15 ?_
            refine j_istore C [(4, .int (vI 0)), (0, .ref (b 0)), (1, .int (vI l1)), (2, .int (vI l2)), (3, .int (vI l3))] rfl (by decide) dX6_spread_16 ?_
            refine j_lv [1, 2, 3, 4, 0] rfl ?_
            exact J18 NN l1 l2 l3 0 mod_comes h
      unfold F_X6_spread_b2_body at h
      refine j_iload_n C 2 rfl rfl dX6_spread_2 ?_
      refine j_if_eq C h 90 (by decide) dX6_spread_3 (fun c13 h => ?_) (fun c13 h => ?_)
      · cases h
        exact RET _ _ dX6_spread_90
      · refine j_iconst C dX6_spread_6 ?_
        refine j_istore_n C [(2, .int (vI 0)), (0, .ref (b 0)), (1, .int (vI l1))] rfl rfl (by decide) dX6_spread_7 ?_
        refine j_iconst C dX6_spread_8 ?_
        refine j_istore_n C [(3, .int (vI 0)), (2, .int (vI 0)), (0, .ref (b 0)), (1, .int (vI l1))] rfl rfl (by decide) dX6_spread_9 ?_
        refine j_lv [2, 3, 1, 0] rfl ?_
        exact J10 NN l1 0 0 mod_comes h
  unfold F_X6_spread at h
  refine j_iconst C dX6_spread_0 ?_
  refine j_istore_n C [(2, .int (vI 1)), (0, .ref (b 0)), (1, .int (vI x1))] rfl rfl (by decide) dX6_spread_1 ?_
  refine j_lv [1, 2, 0] rfl ?_
  exact J2 NN x1 1 mod_comes h
theorem c_X6_spread (l : Launch) (D : va_G) (b : Nat → Nat) (gm : Nat → ClassId) (mod_thrown : Int) (mod_places : Int) (mod_firings : Int) (mod_fired : Int) (mod_logged : Int) (mod_tokens : Nat → Int) (mod_weights : Nat → Int) (mod_logs : Nat → Int) (mod_marks : Nat → Int) (mod_whence : Nat → Int) (mod_by : Nat → Int) (mod_leads : Nat → Int) (mod_comes : Nat → Int) (mod_costs : Nat → Int) (mod_next : Nat → Int) (mod_found : Nat → Int) (x1 : Int) (res : (Nat → Int)) (h : F_X6_spread x1 mod_firings mod_leads mod_comes = some res) : Kt l yX6_spread cX6_spread 6 none ({ frames := 0, cells := 0, slots := 0, locals := 0 } : Room) D (mT gm) [.ref (b 0), .int (vI x1)] (mW b gm mod_thrown mod_places mod_firings mod_fired mod_logged mod_tokens mod_weights mod_logs mod_marks mod_whence mod_by mod_leads mod_comes mod_costs mod_next mod_found) (mW b gm mod_thrown mod_places mod_firings mod_fired mod_logged mod_tokens mod_weights mod_logs mod_marks mod_whence mod_by mod_leads res mod_costs mod_next mod_found) none :=
  kt_v rfl (by decide +kernel) (Nat.le_of_ble_eq_true rfl) (fun C RET => k_X6_spread C x1 res h RET)
set_option maxRecDepth 100000 in
set_option maxHeartbeats 4000000 in
theorem k_X6_allCome {b : Nat → Nat} {gm : Nat → ClassId} {mod_thrown : Int} {mod_places : Int} {mod_firings : Int} {mod_fired : Int} {mod_logged : Int} {mod_tokens : Nat → Int} {mod_weights : Nat → Int} {mod_logs : Nat → Int} {mod_marks : Nat → Int} {mod_whence : Nat → Int} {mod_by : Nat → Int} {mod_leads : Nat → Int} {mod_comes : Nat → Int} {mod_costs : Nat → Int} {mod_next : Nat → Int} {mod_found : Nat → Int} (C : JC p s m args meth c cX6_allCome 4 "MarkingHallModel" D (mT gm) A) (x1 : Int) (res : Int) (h : F_X6_allCome x1 mod_comes = some res) (RET : ∀ (pc : Nat) (lv : List (Nat × Value)), (res = 0 ∨ res = 1) → decode cX6_allCome pc = .ok (.ireturn, 1) → J p l e ({ frames := 0, cells := 0, slots := 0, locals := 0 } : Room) s m args below meth c D A 4 Q 0 0 (mW b gm mod_thrown mod_places mod_firings mod_fired mod_logged mod_tokens mod_weights mod_logs mod_marks mod_whence mod_by mod_leads mod_comes mod_costs mod_next mod_found) pc lv [.int (vI res)]) : J p l e ({ frames := 0, cells := 0, slots := 0, locals := 0 } : Room) s m args below meth c D A 4 Q 0 0 (mW b gm mod_thrown mod_places mod_firings mod_fired mod_logged mod_tokens mod_weights mod_logs mod_marks mod_whence mod_by mod_leads mod_comes mod_costs mod_next mod_found) 0 [(0, .ref (b 0)), (1, .int (vI x1))] [] := by
  have J4 : ∀ (n : Nat) (l1 : Int) (l2 : Int) (l3 : Int), F_X6_allCome_b4 mod_comes n l1 l2 l3 = some res → J p l e ({ frames := 0, cells := 0, slots := 0, locals := 0 } : Room) s m args below meth c D A 4 Q 0 0 (mW b gm mod_thrown mod_places mod_firings mod_fired mod_logged mod_tokens mod_weights mod_logs mod_marks mod_whence mod_by mod_leads mod_comes mod_costs mod_next mod_found) 4 [(0, .ref (b 0)), (1, .int (vI l1)), (2, .int (vI l2)), (3, .int (vI l3))] [] := by
    intro n
    induction n with
    | zero => intro l1 l2 l3 h; exact no_h h
    | succ n ih4 =>
      intro l1 l2 l3 h
      replace h : F_X6_allCome_b4_body mod_comes (F_X6_allCome_b4 mod_comes n) l1 l2 l3 = some res := h
      generalize F_X6_allCome_b4 mod_comes n = ag4 at ih4 h
      have J27 : ∀ (l1 : Int) (l3 : Int) (s0 : Int), F_X6_allCome_b27 mod_comes ag4 l1 l3 s0 = some res → J p l e ({ frames := 0, cells := 0, slots := 0, locals := 0 } : Room) s m args below meth c D A 4 Q 0 0 (mW b gm mod_thrown mod_places mod_firings mod_fired mod_logged mod_tokens mod_weights mod_logs mod_marks mod_whence mod_by mod_leads mod_comes mod_costs mod_next mod_found) 27 [(0, .ref (b 0)), (1, .int (vI l1)), (3, .int (vI l3))] [.int (vI s0)] := by
        intro l1 l3 s0 h
        unfold F_X6_allCome_b27 at h
        refine j_istore_n C [(2, .int (vI s0)), (0, .ref (b 0)), (1, .int (vI l1)), (3, .int (vI l3))] rfl rfl (by decide) dX6_allCome_27 ?_
        refine j_iinc C 3 rfl (fun v => [(3, .int (vI v)), (2, .int (vI s0)), (0, .ref (b 0)), (1, .int (vI l1))]) (fun _ => rfl) (by decide) h dX6_allCome_28 (fun v1 h => ?_)
        refine j_goto C 4 (by decide) dX6_allCome_31 ?_
        refine j_lv [2, 3, 1, 0] rfl ?_
        exact ih4 l1 s0 v1 h
      have J26 : ∀ (l1 : Int) (l3 : Int), F_X6_allCome_b26 mod_comes ag4 l1 l3 = some res → J p l e ({ frames := 0, cells := 0, slots := 0, locals := 0 } : Room) s m args below meth c D A 4 Q 0 0 (mW b gm mod_thrown mod_places mod_firings mod_fired mod_logged mod_tokens mod_weights mod_logs mod_marks mod_whence mod_by mod_leads mod_comes mod_costs mod_next mod_found) 26 [(0, .ref (b 0)), (1, .int (vI l1)), (3, .int (vI l3))] [] := by
        intro l1 l3 h
        unfold F_X6_allCome_b26 at h
        refine j_iconst C dX6_allCome_26 ?_
        exact J27 l1 l3 0 h
      unfold F_X6_allCome_b4_body at h
      refine j_iload_n C 3 rfl rfl dX6_allCome_4 ?_
      refine j_iload_n C 1 rfl rfl dX6_allCome_5 ?_
      refine j_icmp_ge C h 34 (by decide) dX6_allCome_6 (fun c6 h => ?_) (fun c6 h => ?_)
      · refine j_iload_n C 2 rfl rfl dX6_allCome_34 ?_
        obtain ⟨hz2, h⟩ := G_of h
        cases h
        exact RET _ _ hz2 dX6_allCome_35
      · refine j_iload_n C 2 rfl rfl dX6_allCome_9 ?_
        refine j_if_eq C h 26 (by decide) dX6_allCome_10 (fun c5 h => ?_) (fun c5 h => ?_)
        · refine j_lv [0, 1, 3] rfl ?_
          exact J26 l1 l3 h
        · refine j_aload_n C 0 rfl rfl dX6_allCome_13 ?_
          refine g_X6_31 C (v := .ref (b 8)) 0 rfl rfl dX6_allCome_14 ?_
          refine j_iload_n C 3 rfl rfl dX6_allCome_17 ?_
          refine j_zald C 8 7 rfl rfl (Nat.le_of_ble_eq_true rfl) h dX6_allCome_18 (fun v3 h => ?_)
          refine j_if_eq C h 26 (by decide) dX6_allCome_19 (fun c4 h => ?_) (fun c4 h => ?_)
          · refine j_lv [0, 1, 3] rfl ?_
            exact J26 l1 l3 h
          · refine j_iconst C dX6_allCome_22 ?_
            refine j_goto C 27 (by decide) dX6_allCome_23 ?_
            refine j_lv [0, 1, 3] rfl ?_
            exact J27 l1 l3 1 h
  unfold F_X6_allCome at h
  refine j_iconst C dX6_allCome_0 ?_
  refine j_istore_n C [(2, .int (vI 1)), (0, .ref (b 0)), (1, .int (vI x1))] rfl rfl (by decide) dX6_allCome_1 ?_
  refine j_iconst C dX6_allCome_2 ?_
  refine j_istore_n C [(3, .int (vI 0)), (2, .int (vI 1)), (0, .ref (b 0)), (1, .int (vI x1))] rfl rfl (by decide) dX6_allCome_3 ?_
  refine j_lv [2, 3, 1, 0] rfl ?_
  exact J4 NN x1 1 0 h
theorem c_X6_allCome (l : Launch) (D : va_G) (b : Nat → Nat) (gm : Nat → ClassId) (mod_thrown : Int) (mod_places : Int) (mod_firings : Int) (mod_fired : Int) (mod_logged : Int) (mod_tokens : Nat → Int) (mod_weights : Nat → Int) (mod_logs : Nat → Int) (mod_marks : Nat → Int) (mod_whence : Nat → Int) (mod_by : Nat → Int) (mod_leads : Nat → Int) (mod_comes : Nat → Int) (mod_costs : Nat → Int) (mod_next : Nat → Int) (mod_found : Nat → Int) (x1 : Int) (res : Int) (h : F_X6_allCome x1 mod_comes = some res) : Kt l yX6_allCome cX6_allCome 4 (some .boolean) ({ frames := 0, cells := 0, slots := 0, locals := 0 } : Room) D (mT gm) [.ref (b 0), .int (vI x1)] (mW b gm mod_thrown mod_places mod_firings mod_fired mod_logged mod_tokens mod_weights mod_logs mod_marks mod_whence mod_by mod_leads mod_comes mod_costs mod_next mod_found) (mW b gm mod_thrown mod_places mod_firings mod_fired mod_logged mod_tokens mod_weights mod_logs mod_marks mod_whence mod_by mod_leads mod_comes mod_costs mod_next mod_found) (some (.int (vI res))) :=
  kt_z rfl (by decide +kernel) (Nat.le_of_ble_eq_true rfl) (fun C RET => k_X6_allCome C x1 res h RET)
set_option maxRecDepth 100000 in
set_option maxHeartbeats 4000000 in
theorem k_X6_outOf {b : Nat → Nat} {gm : Nat → ClassId} {mod_thrown : Int} {mod_places : Int} {mod_firings : Int} {mod_fired : Int} {mod_logged : Int} {mod_tokens : Nat → Int} {mod_weights : Nat → Int} {mod_logs : Nat → Int} {mod_marks : Nat → Int} {mod_whence : Nat → Int} {mod_by : Nat → Int} {mod_leads : Nat → Int} {mod_comes : Nat → Int} {mod_costs : Nat → Int} {mod_next : Nat → Int} {mod_found : Nat → Int} (C : JC p s m args meth c cX6_outOf 4 "MarkingHallModel" D (mT gm) A) (x1 : Int) (res : Int) (h : F_X6_outOf x1 mod_firings mod_leads = some res) (RET : ∀ (pc : Nat) (lv : List (Nat × Value)), decode cX6_outOf pc = .ok (.ireturn, 1) → J p l e ({ frames := 0, cells := 0, slots := 0, locals := 0 } : Room) s m args below meth c D A 4 Q 0 0 (mW b gm mod_thrown mod_places mod_firings mod_fired mod_logged mod_tokens mod_weights mod_logs mod_marks mod_whence mod_by mod_leads mod_comes mod_costs mod_next mod_found) pc lv [.int (vI res)]) : J p l e ({ frames := 0, cells := 0, slots := 0, locals := 0 } : Room) s m args below meth c D A 4 Q 0 0 (mW b gm mod_thrown mod_places mod_firings mod_fired mod_logged mod_tokens mod_weights mod_logs mod_marks mod_whence mod_by mod_leads mod_comes mod_costs mod_next mod_found) 0 [(0, .ref (b 0)), (1, .int (vI x1))] [] := by
  have J4 : ∀ (n : Nat) (l1 : Int) (l2 : Int) (l3 : Int), F_X6_outOf_b4 mod_firings mod_leads n l1 l2 l3 = some res → J p l e ({ frames := 0, cells := 0, slots := 0, locals := 0 } : Room) s m args below meth c D A 4 Q 0 0 (mW b gm mod_thrown mod_places mod_firings mod_fired mod_logged mod_tokens mod_weights mod_logs mod_marks mod_whence mod_by mod_leads mod_comes mod_costs mod_next mod_found) 4 [(0, .ref (b 0)), (1, .int (vI l1)), (2, .int (vI l2)), (3, .int (vI l3))] [] := by
    intro n
    induction n with
    | zero => intro l1 l2 l3 h; exact no_h h
    | succ n ih4 =>
      intro l1 l2 l3 h
      replace h : F_X6_outOf_b4_body mod_firings mod_leads (F_X6_outOf_b4 mod_firings mod_leads n) l1 l2 l3 = some res := h
      generalize F_X6_outOf_b4 mod_firings mod_leads n = ag4 at ih4 h
      have J33 : ∀ (l1 : Int) (l3 : Int) (s0 : Int) (s1 : Int), F_X6_outOf_b33 mod_firings mod_leads ag4 l1 l3 s0 s1 = some res → J p l e ({ frames := 0, cells := 0, slots := 0, locals := 0 } : Room) s m args below meth c D A 4 Q 0 0 (mW b gm mod_thrown mod_places mod_firings mod_fired mod_logged mod_tokens mod_weights mod_logs mod_marks mod_whence mod_by mod_leads mod_comes mod_costs mod_next mod_found) 33 [(0, .ref (b 0)), (1, .int (vI l1)), (3, .int (vI l3))] [.int (vI s1), .int (vI s0)] := by
        intro l1 l3 s0 s1 h
        unfold F_X6_outOf_b33 at h
        refine j_iadd C dX6_outOf_33 ?_
        refine j_nm h (fun v1 h => ?_)
        refine j_istore_n C [(2, .int (vI v1)), (0, .ref (b 0)), (1, .int (vI l1)), (3, .int (vI l3))] rfl rfl (by decide) dX6_outOf_34 ?_
        refine j_iinc C 3 rfl (fun v => [(3, .int (vI v)), (2, .int (vI v1)), (0, .ref (b 0)), (1, .int (vI l1))]) (fun _ => rfl) (by decide) h dX6_outOf_35 (fun v2 h => ?_)
        refine j_goto C 4 (by decide) dX6_outOf_38 ?_
        refine j_lv [2, 3, 1, 0] rfl ?_
        exact ih4 l1 v1 v2 h
      unfold F_X6_outOf_b4_body at h
      refine j_iload_n C 3 rfl rfl dX6_outOf_4 ?_
      refine j_aload_n C 0 rfl rfl dX6_outOf_5 ?_
      refine g_X6_55 C (v := .int (vI mod_firings)) 0 rfl rfl dX6_outOf_6 ?_
      refine j_icmp_ge C h 41 (by decide) dX6_outOf_9 (fun c6 h => ?_) (fun c6 h => ?_)
      · refine j_iload_n C 2 rfl rfl dX6_outOf_41 ?_
        cases h
        exact RET _ _ dX6_outOf_42
      · refine j_iload_n C 2 rfl rfl dX6_outOf_12 ?_
        refine j_aload_n C 0 rfl rfl dX6_outOf_13 ?_
        refine g_X6_28 C (v := .ref (b 7)) 0 rfl rfl dX6_outOf_14 ?_
        refine j_bipush C (by decide) dX6_outOf_17 ?_
        refine j_iload_n C 1 rfl rfl dX6_outOf_19 ?_
        refine j_imul C dX6_outOf_20 ?_
        refine j_iload_n C 3 rfl rfl dX6_outOf_21 ?_
        refine j_iadd C dX6_outOf_22 ?_
        refine j_nm h (fun v3 h => ?_)
        refine j_iald C 7 6 rfl rfl (Nat.le_of_ble_eq_true rfl) h dX6_outOf_23 (fun v4 h => ?_)
        refine j_iconst C dX6_outOf_24 ?_
        refine j_icmp_eq C h 32 (by decide) dX6_outOf_25 (fun c5 h => ?_) (fun c5 h => ?_)
        · refine j_iconst C dX6_outOf_32 ?_
          refine j_lv [0, 1, 3] rfl ?_
          exact J33 l1 l3 l2 0 h
        · refine j_iconst C dX6_outOf_28 ?_
          refine j_goto C 33 (by decide) dX6_outOf_29 ?_
          refine j_lv [0, 1, 3] rfl ?_
          exact J33 l1 l3 l2 1 h
  unfold F_X6_outOf at h
  refine j_iconst C dX6_outOf_0 ?_
  refine j_istore_n C [(2, .int (vI 0)), (0, .ref (b 0)), (1, .int (vI x1))] rfl rfl (by decide) dX6_outOf_1 ?_
  refine j_iconst C dX6_outOf_2 ?_
  refine j_istore_n C [(3, .int (vI 0)), (2, .int (vI 0)), (0, .ref (b 0)), (1, .int (vI x1))] rfl rfl (by decide) dX6_outOf_3 ?_
  refine j_lv [2, 3, 1, 0] rfl ?_
  exact J4 NN x1 0 0 h
theorem c_X6_outOf (l : Launch) (D : va_G) (b : Nat → Nat) (gm : Nat → ClassId) (mod_thrown : Int) (mod_places : Int) (mod_firings : Int) (mod_fired : Int) (mod_logged : Int) (mod_tokens : Nat → Int) (mod_weights : Nat → Int) (mod_logs : Nat → Int) (mod_marks : Nat → Int) (mod_whence : Nat → Int) (mod_by : Nat → Int) (mod_leads : Nat → Int) (mod_comes : Nat → Int) (mod_costs : Nat → Int) (mod_next : Nat → Int) (mod_found : Nat → Int) (x1 : Int) (res : Int) (h : F_X6_outOf x1 mod_firings mod_leads = some res) : Kt l yX6_outOf cX6_outOf 4 (some .int) ({ frames := 0, cells := 0, slots := 0, locals := 0 } : Room) D (mT gm) [.ref (b 0), .int (vI x1)] (mW b gm mod_thrown mod_places mod_firings mod_fired mod_logged mod_tokens mod_weights mod_logs mod_marks mod_whence mod_by mod_leads mod_comes mod_costs mod_next mod_found) (mW b gm mod_thrown mod_places mod_firings mod_fired mod_logged mod_tokens mod_weights mod_logs mod_marks mod_whence mod_by mod_leads mod_comes mod_costs mod_next mod_found) (some (.int (vI res))) :=
  kt_i (ty := .int) rfl rfl (by decide +kernel) (Nat.le_of_ble_eq_true rfl) (fun C RET => k_X6_outOf C x1 res h RET)
set_option maxRecDepth 100000 in
set_option maxHeartbeats 4000000 in
theorem k_X6_graph {b : Nat → Nat} {gm : Nat → ClassId} {mod_thrown : Int} {mod_places : Int} {mod_firings : Int} {mod_fired : Int} {mod_logged : Int} {mod_tokens : Nat → Int} {mod_weights : Nat → Int} {mod_logs : Nat → Int} {mod_marks : Nat → Int} {mod_whence : Nat → Int} {mod_by : Nat → Int} {mod_leads : Nat → Int} {mod_comes : Nat → Int} {mod_costs : Nat → Int} {mod_next : Nat → Int} {mod_found : Nat → Int} (C : JC p s m args meth c cX6_graph 6 "MarkingHallModel" D (mT gm) A) (x1 : Int) (res : Int × (Int) × (Nat → Int) × (Nat → Int) × (Nat → Int) × (Nat → Int) × (Nat → Int)) (h : F_X6_graph x1 mod_places mod_firings mod_tokens mod_weights mod_thrown mod_marks mod_whence mod_by mod_leads mod_comes = some res) (RET : ∀ (pc : Nat) (lv : List (Nat × Value)), decode cX6_graph pc = .ok (.ireturn, 1) → J p l e ({ frames := 4, cells := 0, slots := 0, locals := 97 } : Room) s m args below meth c D A 6 Q 0 0 (mW b gm res.2.1 mod_places mod_firings mod_fired mod_logged mod_tokens mod_weights mod_logs res.2.2.1 res.2.2.2.1 res.2.2.2.2.1 res.2.2.2.2.2.1 res.2.2.2.2.2.2 mod_costs mod_next mod_found) pc lv [.int (vI res.1)]) : J p l e ({ frames := 4, cells := 0, slots := 0, locals := 97 } : Room) s m args below meth c D A 6 Q 0 0 (mW b gm mod_thrown mod_places mod_firings mod_fired mod_logged mod_tokens mod_weights mod_logs mod_marks mod_whence mod_by mod_leads mod_comes mod_costs mod_next mod_found) 0 [(0, .ref (b 0)), (1, .int (vI x1))] [] := by
  have J47 : ∀ (n : Nat) (l1 : Int) (l2 : Int) (l3 : Int) (l4 : Int) (l5 : Int) (mod_thrown : Int) (mod_marks : Nat → Int) (mod_whence : Nat → Int) (mod_by : Nat → Int) (mod_leads : Nat → Int) (mod_comes : Nat → Int), F_X6_graph_b47 mod_places mod_firings mod_tokens mod_weights n l1 l2 l3 l4 l5 mod_thrown mod_marks mod_whence mod_by mod_leads mod_comes = some res → J p l e ({ frames := 4, cells := 0, slots := 0, locals := 97 } : Room) s m args below meth c D A 6 Q 0 0 (mW b gm mod_thrown mod_places mod_firings mod_fired mod_logged mod_tokens mod_weights mod_logs mod_marks mod_whence mod_by mod_leads mod_comes mod_costs mod_next mod_found) 47 [(0, .ref (b 0)), (1, .int (vI l1)), (2, .int (vI l2)), (3, .int (vI l3)), (4, .int (vI l4)), (5, .int (vI l5))] [] := by
    intro n
    induction n with
    | zero => intro l1 l2 l3 l4 l5 mod_thrown mod_marks mod_whence mod_by mod_leads mod_comes h; exact no_h h
    | succ n ih47 =>
      intro l1 l2 l3 l4 l5 mod_thrown mod_marks mod_whence mod_by mod_leads mod_comes h
      replace h : F_X6_graph_b47_body mod_places mod_firings mod_tokens mod_weights (F_X6_graph_b47 mod_places mod_firings mod_tokens mod_weights n) l1 l2 l3 l4 l5 mod_thrown mod_marks mod_whence mod_by mod_leads mod_comes = some res := h
      generalize F_X6_graph_b47 mod_places mod_firings mod_tokens mod_weights n = ag47 at ih47 h
      have J97 : ∀ (l1 : Int) (l2 : Int) (l3 : Int) (l4 : Int) (l5 : Int) (s1 : Int) (s2 : Int) (mod_thrown : Int) (mod_marks : Nat → Int) (mod_whence : Nat → Int) (mod_by : Nat → Int) (mod_leads : Nat → Int) (mod_comes : Nat → Int), F_X6_graph_b97 mod_places mod_firings mod_tokens mod_weights ag47 l1 l2 l3 l4 l5 s1 s2 mod_thrown mod_marks mod_whence mod_by mod_leads mod_comes = some res → J p l e ({ frames := 4, cells := 0, slots := 0, locals := 97 } : Room) s m args below meth c D A 6 Q 0 0 (mW b gm mod_thrown mod_places mod_firings mod_fired mod_logged mod_tokens mod_weights mod_logs mod_marks mod_whence mod_by mod_leads mod_comes mod_costs mod_next mod_found) 97 [(0, .ref (b 0)), (1, .int (vI l1)), (2, .int (vI l2)), (3, .int (vI l3)), (4, .int (vI l4)), (5, .int (vI l5))] [.int (vI s2), .int (vI s1), .ref (b 8)] := by
        intro l1 l2 l3 l4 l5 s1 s2 mod_thrown mod_marks mod_whence mod_by mod_leads mod_comes h
        unfold F_X6_graph_b97 at h
        refine j_zast C 8 7 rfl rfl (Nat.le_of_ble_eq_true rfl) (fun f' => (mW b gm mod_thrown mod_places mod_firings mod_fired mod_logged mod_tokens mod_weights mod_logs mod_marks mod_whence mod_by mod_leads f' mod_costs mod_next mod_found)) (fun _ => rfl) h dX6_graph_97 (fun f1 h => ?_)
        refine j_iinc C 5 rfl (fun v => [(5, .int (vI v)), (0, .ref (b 0)), (1, .int (vI l1)), (2, .int (vI l2)), (3, .int (vI l3)), (4, .int (vI l4))]) (fun _ => rfl) (by decide) h dX6_graph_98 (fun v2 h => ?_)
        refine j_goto C 47 (by decide) dX6_graph_101 ?_
        refine j_lv [1, 2, 3, 4, 5, 0] rfl ?_
        exact ih47 l1 l2 l3 l4 v2 mod_thrown mod_marks mod_whence mod_by mod_leads f1 h
      have J78 : ∀ (l1 : Int) (l2 : Int) (l3 : Int) (l5 : Int) (s0 : Int) (s1 : Int) (mod_thrown : Int) (mod_marks : Nat → Int) (mod_whence : Nat → Int) (mod_by : Nat → Int) (mod_leads : Nat → Int) (mod_comes : Nat → Int), F_X6_graph_b78 mod_places mod_firings mod_tokens mod_weights ag47 l1 l2 l3 l5 s0 s1 mod_thrown mod_marks mod_whence mod_by mod_leads mod_comes = some res → J p l e ({ frames := 4, cells := 0, slots := 0, locals := 97 } : Room) s m args below meth c D A 6 Q 0 0 (mW b gm mod_thrown mod_places mod_firings mod_fired mod_logged mod_tokens mod_weights mod_logs mod_marks mod_whence mod_by mod_leads mod_comes mod_costs mod_next mod_found) 78 [(0, .ref (b 0)), (1, .int (vI l1)), (2, .int (vI l2)), (3, .int (vI l3)), (5, .int (vI l5))] [.int (vI s1), .int (vI s0)] := by
        intro l1 l2 l3 l5 s0 s1 mod_thrown mod_marks mod_whence mod_by mod_leads mod_comes h
        unfold F_X6_graph_b78 at h
        refine j_iadd C dX6_graph_78 ?_
        refine j_nm h (fun v3 h => ?_)
        refine j_istore C [(4, .int (vI v3)), (0, .ref (b 0)), (1, .int (vI l1)), (2, .int (vI l2)), (3, .int (vI l3)), (5, .int (vI l5))] rfl (by decide) dX6_graph_79 ?_
        refine j_aload_n C 1 rfl rfl dX6_graph_81 ?_
        refine g_X6_31 C (v := .ref (b 8)) 0 rfl rfl dX6_graph_82 ?_
        refine j_iload C 5 rfl dX6_graph_85 ?_
        refine j_iload C 5 rfl dX6_graph_87 ?_
        refine j_if_ne C h 96 (by decide) dX6_graph_89 (fun c4 h => ?_) (fun c4 h => ?_)
        · refine j_iconst C dX6_graph_96 ?_
          refine j_lv [1, 2, 3, 4, 0, 5] rfl ?_
          exact J97 l1 l2 l3 v3 l5 l5 0 mod_thrown mod_marks mod_whence mod_by mod_leads mod_comes h
        · refine j_iconst C dX6_graph_92 ?_
          refine j_goto C 97 (by decide) dX6_graph_93 ?_
          refine j_lv [1, 2, 3, 4, 0, 5] rfl ?_
          exact J97 l1 l2 l3 v3 l5 l5 1 mod_thrown mod_marks mod_whence mod_by mod_leads mod_comes h
      unfold F_X6_graph_b47_body at h
      refine j_iload C 5 rfl dX6_graph_47 ?_
      refine j_iload_n C 2 rfl rfl dX6_graph_49 ?_
      refine j_icmp_ge C h 104 (by decide) dX6_graph_50 (fun c14 h => ?_) (fun c14 h => ?_)
      · refine j_aload_n C 0 rfl rfl dX6_graph_104 ?_
        refine j_iload_n C 2 rfl rfl dX6_graph_105 ?_
        obtain ⟨r5, hr5, h⟩ := Ob_of h
        refine q_X6_99 C (wc := (mW b gm mod_thrown mod_places mod_firings mod_fired mod_logged mod_tokens mod_weights mod_logs mod_marks mod_whence mod_by mod_leads mod_comes mod_costs mod_next mod_found)) (wc' := (mW b gm mod_thrown mod_places mod_firings mod_fired mod_logged mod_tokens mod_weights mod_logs mod_marks mod_whence mod_by mod_leads r5 mod_costs mod_next mod_found)) (c_X6_spread l D b gm mod_thrown mod_places mod_firings mod_fired mod_logged mod_tokens mod_weights mod_logs mod_marks mod_whence mod_by mod_leads mod_comes mod_costs mod_next mod_found l2 r5 hr5) ⟨(Nat.le_of_ble_eq_true rfl), (Nat.le_of_ble_eq_true rfl)⟩ rfl rfl 0 rfl rfl (ww _) (ww _) mW_ha C.2.2.2.2.2.2.1 (Nat.le_of_ble_eq_true rfl) rfl rfl (Nat.zero_le _) (Nat.zero_le _) dX6_graph_106 ?_
        refine j_iload_n C 1 rfl rfl dX6_graph_109 ?_
        refine j_iconst C dX6_graph_110 ?_
        refine j_icmp_ne C h 118 (by decide) dX6_graph_111 (fun c9 h => ?_) (fun c9 h => ?_)
        · refine j_iload_n C 1 rfl rfl dX6_graph_118 ?_
          refine j_iconst C dX6_graph_119 ?_
          refine j_icmp_ne C h 128 (by decide) dX6_graph_120 (fun c8 h => ?_) (fun c8 h => ?_)
          · refine j_aload_n C 0 rfl rfl dX6_graph_128 ?_
            refine j_iload_n C 2 rfl rfl dX6_graph_129 ?_
            obtain ⟨r6, hr6, h⟩ := Ob_of h
            refine q_X6_103 C (wc := (mW b gm mod_thrown mod_places mod_firings mod_fired mod_logged mod_tokens mod_weights mod_logs mod_marks mod_whence mod_by mod_leads r5 mod_costs mod_next mod_found)) (wc' := (mW b gm mod_thrown mod_places mod_firings mod_fired mod_logged mod_tokens mod_weights mod_logs mod_marks mod_whence mod_by mod_leads r5 mod_costs mod_next mod_found)) (c_X6_allCome l D b gm mod_thrown mod_places mod_firings mod_fired mod_logged mod_tokens mod_weights mod_logs mod_marks mod_whence mod_by mod_leads r5 mod_costs mod_next mod_found l2 r6 hr6) ⟨(Nat.le_of_ble_eq_true rfl), (Nat.le_of_ble_eq_true rfl)⟩ rfl rfl 0 rfl rfl (ww _) (ww _) rfl C.2.2.2.2.2.2.1 (Nat.le_of_ble_eq_true rfl) rfl rfl (Nat.zero_le _) (Nat.zero_le _) dX6_graph_130 ?_
            refine j_if_eq C h 140 (by decide) dX6_graph_133 (fun c7 h => ?_) (fun c7 h => ?_)
            · refine j_iconst C dX6_graph_140 ?_
              cases h
              exact RET _ _ dX6_graph_141
            · refine j_iconst C dX6_graph_136 ?_
              refine j_goto C 141 (by decide) dX6_graph_137 ?_
              cases h
              exact RET _ _ dX6_graph_141
          · refine j_iload C 4 rfl dX6_graph_123 ?_
            refine j_goto C 141 (by decide) dX6_graph_125 ?_
            cases h
            exact RET _ _ dX6_graph_141
        · refine j_iload_n C 3 rfl rfl dX6_graph_114 ?_
          refine j_goto C 141 (by decide) dX6_graph_115 ?_
          cases h
          exact RET _ _ dX6_graph_141
      · refine j_iload_n C 3 rfl rfl dX6_graph_53 ?_
        refine j_aload_n C 0 rfl rfl dX6_graph_54 ?_
        refine j_iload C 5 rfl dX6_graph_55 ?_
        obtain ⟨r10, hr10, h⟩ := Ob_of h
        refine q_X6_95 C (wc := (mW b gm mod_thrown mod_places mod_firings mod_fired mod_logged mod_tokens mod_weights mod_logs mod_marks mod_whence mod_by mod_leads mod_comes mod_costs mod_next mod_found)) (wc' := (mW b gm mod_thrown mod_places mod_firings mod_fired mod_logged mod_tokens mod_weights mod_logs mod_marks mod_whence mod_by mod_leads mod_comes mod_costs mod_next mod_found)) (c_X6_outOf l D b gm mod_thrown mod_places mod_firings mod_fired mod_logged mod_tokens mod_weights mod_logs mod_marks mod_whence mod_by mod_leads mod_comes mod_costs mod_next mod_found l5 r10 hr10) ⟨(Nat.le_of_ble_eq_true rfl), (Nat.le_of_ble_eq_true rfl)⟩ rfl rfl 0 rfl rfl (ww _) (ww _) rfl C.2.2.2.2.2.2.1 (Nat.le_of_ble_eq_true rfl) rfl rfl (Nat.zero_le _) (Nat.zero_le _) dX6_graph_57 ?_
        refine j_iadd C dX6_graph_60 ?_
        refine j_nm h (fun v11 h => ?_)
        refine j_istore_n C [(3, .int (vI v11)), (0, .ref (b 0)), (1, .int (vI l1)), (2, .int (vI l2)), (4, .int (vI l4)), (5, .int (vI l5))] rfl rfl (by decide) dX6_graph_61 ?_
        refine j_iload C 4 rfl dX6_graph_62 ?_
        refine j_aload_n C 1 rfl rfl dX6_graph_64 ?_
        refine j_iload C 5 rfl dX6_graph_65 ?_
        obtain ⟨r12, hr12, h⟩ := Ob_of h
        refine q_X6_95 C (wc := (mW b gm mod_thrown mod_places mod_firings mod_fired mod_logged mod_tokens mod_weights mod_logs mod_marks mod_whence mod_by mod_leads mod_comes mod_costs mod_next mod_found)) (wc' := (mW b gm mod_thrown mod_places mod_firings mod_fired mod_logged mod_tokens mod_weights mod_logs mod_marks mod_whence mod_by mod_leads mod_comes mod_costs mod_next mod_found)) (c_X6_outOf l D b gm mod_thrown mod_places mod_firings mod_fired mod_logged mod_tokens mod_weights mod_logs mod_marks mod_whence mod_by mod_leads mod_comes mod_costs mod_next mod_found l5 r12 hr12) ⟨(Nat.le_of_ble_eq_true rfl), (Nat.le_of_ble_eq_true rfl)⟩ rfl rfl 0 rfl rfl (ww _) (ww _) rfl C.2.2.2.2.2.2.1 (Nat.le_of_ble_eq_true rfl) rfl rfl (Nat.zero_le _) (Nat.zero_le _) dX6_graph_67 ?_
        refine j_if_ne C h 77 (by decide) dX6_graph_70 (fun c13 h => ?_) (fun c13 h => ?_)
        · refine j_iconst C dX6_graph_77 ?_
          refine j_lv [1, 2, 3, 0, 5] rfl ?_
          exact J78 l1 l2 v11 l5 l4 0 mod_thrown mod_marks mod_whence mod_by mod_leads mod_comes h
        · refine j_iconst C dX6_graph_73 ?_
          refine j_goto C 78 (by decide) dX6_graph_74 ?_
          refine j_lv [1, 2, 3, 0, 5] rfl ?_
          exact J78 l1 l2 v11 l5 l4 1 mod_thrown mod_marks mod_whence mod_by mod_leads mod_comes h
  have J37 : ∀ (l2 : Int) (mod_thrown : Int) (mod_marks : Nat → Int) (mod_whence : Nat → Int) (mod_by : Nat → Int) (mod_leads : Nat → Int) (mod_comes : Nat → Int), F_X6_graph_b37 mod_places mod_firings mod_tokens mod_weights l2 mod_thrown mod_marks mod_whence mod_by mod_leads mod_comes = some res → J p l e ({ frames := 4, cells := 0, slots := 0, locals := 97 } : Room) s m args below meth c D A 6 Q 0 0 (mW b gm mod_thrown mod_places mod_firings mod_fired mod_logged mod_tokens mod_weights mod_logs mod_marks mod_whence mod_by mod_leads mod_comes mod_costs mod_next mod_found) 37 [(2, .int (vI l2))] [] := by
    intro l2 mod_thrown mod_marks mod_whence mod_by mod_leads mod_comes h
    unfold F_X6_graph_b37 at h
    refine j_iload_n C 0 rfl rfl dX6_graph_37 ?_
    cases h
    exact RET _ _ dX6_graph_38
  have J15 : ∀ (l1 : Int) (s1 : Int) (mod_thrown : Int) (mod_marks : Nat → Int) (mod_whence : Nat → Int) (mod_by : Nat → Int) (mod_leads : Nat → Int) (mod_comes : Nat → Int), F_X6_graph_b15 mod_places mod_firings mod_tokens mod_weights l1 s1 mod_thrown mod_marks mod_whence mod_by mod_leads mod_comes = some res → J p l e ({ frames := 4, cells := 0, slots := 0, locals := 97 } : Room) s m args below meth c D A 6 Q 0 0 (mW b gm mod_thrown mod_places mod_firings mod_fired mod_logged mod_tokens mod_weights mod_logs mod_marks mod_whence mod_by mod_leads mod_comes mod_costs mod_next mod_found) 15 [(0, .ref (b 0)), (1, .int (vI l1))] [.int (vI s1), .ref (b 0)] := by
    intro l1 s1 mod_thrown mod_marks mod_whence mod_by mod_leads mod_comes h
    unfold F_X6_graph_b15 at h
    obtain ⟨r15, hr15, h⟩ := Ob_of h
    refine q_X6_58 C (wc := (mW b gm mod_thrown mod_places mod_firings mod_fired mod_logged mod_tokens mod_weights mod_logs mod_marks mod_whence mod_by mod_leads mod_comes mod_costs mod_next mod_found)) (wc' := (mW b gm r15.2 mod_places mod_firings mod_fired mod_logged mod_tokens mod_weights mod_logs mod_marks mod_whence mod_by mod_leads mod_comes mod_costs mod_next mod_found)) (c_X6_goesWell l D b gm mod_thrown mod_places mod_firings mod_fired mod_logged mod_tokens mod_weights mod_logs mod_marks mod_whence mod_by mod_leads mod_comes mod_costs mod_next mod_found s1 r15 hr15) ⟨(Nat.le_of_ble_eq_true rfl), (Nat.le_of_ble_eq_true rfl)⟩ rfl rfl 0 rfl rfl (ww _) (ww _) mW_ha C.2.2.2.2.2.2.1 (Nat.le_of_ble_eq_true rfl) rfl rfl (Nat.zero_le _) (Nat.zero_le _) dX6_graph_15 ?_
    refine j_if_ne C h 23 (by decide) dX6_graph_18 (fun c19 h => ?_) (fun c19 h => ?_)
    · refine j_aload_n C 0 rfl rfl dX6_graph_23 ?_
      obtain ⟨r16, hr16, h⟩ := Ob_of h
      refine q_X6_91 C (wc := (mW b gm r15.2 mod_places mod_firings mod_fired mod_logged mod_tokens mod_weights mod_logs mod_marks mod_whence mod_by mod_leads mod_comes mod_costs mod_next mod_found)) (wc' := (mW b gm r15.2 mod_places mod_firings mod_fired mod_logged mod_tokens mod_weights mod_logs r16.2.1 r16.2.2.1 r16.2.2.2.1 r16.2.2.2.2 mod_comes mod_costs mod_next mod_found)) (c_X6_findAll l D b gm r15.2 mod_places mod_firings mod_fired mod_logged mod_tokens mod_weights mod_logs mod_marks mod_whence mod_by mod_leads mod_comes mod_costs mod_next mod_found r16 hr16) ⟨(Nat.le_of_ble_eq_true rfl), (Nat.le_of_ble_eq_true rfl)⟩ rfl rfl 0 rfl rfl (ww _) (ww _) mW_ha C.2.2.2.2.2.2.1 (Nat.le_of_ble_eq_true rfl) rfl rfl (Nat.zero_le _) (Nat.zero_le _) dX6_graph_24 ?_
      refine j_istore_n C [(2, .int (vI r16.1)), (0, .ref (b 0)), (1, .int (vI l1))] rfl rfl (by decide) dX6_graph_27 ?_
      refine j_iload_n C 0 rfl rfl dX6_graph_28 ?_
      refine j_iconst C dX6_graph_29 ?_
      refine j_icmp_eq C h 37 (by decide) dX6_graph_30 (fun c18 h => ?_) (fun c18 h => ?_)
      · refine j_lv [0] rfl ?_
        exact J37 r16.1 r15.2 r16.2.1 r16.2.2.1 r16.2.2.2.1 r16.2.2.2.2 mod_comes h
      · refine j_iload_n C 2 rfl rfl dX6_graph_33 ?_
        refine j_if_ne C h 39 (by decide) dX6_graph_34 (fun c17 h => ?_) (fun c17 h => ?_)
        · refine j_iconst C dX6_graph_39 ?_
          refine j_istore_n C [(3, .int (vI 0)), (2, .int (vI r16.1)), (0, .ref (b 0)), (1, .int (vI l1))] rfl rfl (by decide) dX6_graph_40 ?_
          refine j_iconst C dX6_graph_41 ?_
          refine j_istore C [(4, .int (vI 0)), (3, .int (vI 0)), (2, .int (vI r16.1)), (0, .ref (b 0)), (1, .int (vI l1))] rfl (by decide) dX6_graph_42 ?_
          refine j_iconst C dX6_graph_44 ?_
          refine j_istore C [(5, .int (vI 0)), (4, .int (vI 0)), (3, .int (vI 0)), (2, .int (vI r16.1)), (0, .ref (b 0)), (1, .int (vI l1))] rfl (by decide) dX6_graph_45 ?_
          refine j_lv [4, 5, 3, 2, 1, 0] rfl ?_
          exact J47 NN l1 r16.1 0 0 0 r15.2 r16.2.1 r16.2.2.1 r16.2.2.2.1 r16.2.2.2.2 mod_comes h
        · refine j_lv [0] rfl ?_
          exact J37 r16.1 r15.2 r16.2.1 r16.2.2.1 r16.2.2.2.1 r16.2.2.2.2 mod_comes h
    · refine j_iconst C dX6_graph_21 ?_
      cases h
      exact RET _ _ dX6_graph_22
  unfold F_X6_graph at h
  refine j_aload_n C 0 rfl rfl dX6_graph_0 ?_
  refine j_iload_n C 1 rfl rfl dX6_graph_1 ?_
  refine j_iconst C dX6_graph_2 ?_
  refine j_iconst C dX6_graph_3 ?_
  obtain ⟨r20, hr20, h⟩ := Ob_of h
  refine q_X6_51 C (wc := (mW b gm mod_thrown mod_places mod_firings mod_fired mod_logged mod_tokens mod_weights mod_logs mod_marks mod_whence mod_by mod_leads mod_comes mod_costs mod_next mod_found)) (wc' := (mW b gm mod_thrown mod_places mod_firings mod_fired mod_logged mod_tokens mod_weights mod_logs mod_marks mod_whence mod_by mod_leads mod_comes mod_costs mod_next mod_found)) (c_X6_in l D _ _ x1 0 3 r20 hr20) ⟨(Nat.le_of_ble_eq_true rfl), (Nat.le_of_ble_eq_true rfl)⟩ rfl rfl rfl (ww _) (ww _) rfl C.2.2.2.2.2.2.1 (Nat.le_of_ble_eq_true rfl) rfl rfl (Nat.zero_le _) (Nat.zero_le _) dX6_graph_4 ?_
  refine j_if_eq C h 14 (by decide) dX6_graph_7 (fun c21 h => ?_) (fun c21 h => ?_)
  · refine j_iconst C dX6_graph_14 ?_
    exact J15 x1 1 mod_thrown mod_marks mod_whence mod_by mod_leads mod_comes h
  · refine j_iconst C dX6_graph_10 ?_
    refine j_goto C 15 (by decide) dX6_graph_11 ?_
    exact J15 x1 0 mod_thrown mod_marks mod_whence mod_by mod_leads mod_comes h
theorem c_X6_graph (l : Launch) (D : va_G) (b : Nat → Nat) (gm : Nat → ClassId) (mod_thrown : Int) (mod_places : Int) (mod_firings : Int) (mod_fired : Int) (mod_logged : Int) (mod_tokens : Nat → Int) (mod_weights : Nat → Int) (mod_logs : Nat → Int) (mod_marks : Nat → Int) (mod_whence : Nat → Int) (mod_by : Nat → Int) (mod_leads : Nat → Int) (mod_comes : Nat → Int) (mod_costs : Nat → Int) (mod_next : Nat → Int) (mod_found : Nat → Int) (x1 : Int) (res : Int × (Int) × (Nat → Int) × (Nat → Int) × (Nat → Int) × (Nat → Int) × (Nat → Int)) (h : F_X6_graph x1 mod_places mod_firings mod_tokens mod_weights mod_thrown mod_marks mod_whence mod_by mod_leads mod_comes = some res) : Kt l yX6_graph cX6_graph 6 (some .int) ({ frames := 4, cells := 0, slots := 0, locals := 97 } : Room) D (mT gm) [.ref (b 0), .int (vI x1)] (mW b gm mod_thrown mod_places mod_firings mod_fired mod_logged mod_tokens mod_weights mod_logs mod_marks mod_whence mod_by mod_leads mod_comes mod_costs mod_next mod_found) (mW b gm res.2.1 mod_places mod_firings mod_fired mod_logged mod_tokens mod_weights mod_logs res.2.2.1 res.2.2.2.1 res.2.2.2.2.1 res.2.2.2.2.2.1 res.2.2.2.2.2.2 mod_costs mod_next mod_found) (some (.int (vI res.1))) :=
  kt_i (ty := .int) rfl rfl (by decide +kernel) (Nat.le_of_ble_eq_true rfl) (fun C RET => k_X6_graph C x1 res h RET)
set_option maxRecDepth 100000 in
set_option maxHeartbeats 4000000 in
theorem k_X6_marking {b : Nat → Nat} {gm : Nat → ClassId} {mod_thrown : Int} {mod_places : Int} {mod_firings : Int} {mod_fired : Int} {mod_logged : Int} {mod_tokens : Nat → Int} {mod_weights : Nat → Int} {mod_logs : Nat → Int} {mod_marks : Nat → Int} {mod_whence : Nat → Int} {mod_by : Nat → Int} {mod_leads : Nat → Int} {mod_comes : Nat → Int} {mod_costs : Nat → Int} {mod_next : Nat → Int} {mod_found : Nat → Int} (C : JC p s m args meth c cX6_marking 5 "MarkingHallModel" D (mT gm) A) (x1 : Int) (x2 : Int) (res : Int × (Int) × (Nat → Int) × (Nat → Int) × (Nat → Int) × (Nat → Int)) (h : F_X6_marking x1 x2 mod_places mod_firings mod_tokens mod_weights mod_thrown mod_marks mod_whence mod_by mod_leads = some res) (RET : ∀ (pc : Nat) (lv : List (Nat × Value)), decode cX6_marking pc = .ok (.ireturn, 1) → J p l e ({ frames := 4, cells := 0, slots := 0, locals := 97 } : Room) s m args below meth c D A 5 Q 0 0 (mW b gm res.2.1 mod_places mod_firings mod_fired mod_logged mod_tokens mod_weights mod_logs res.2.2.1 res.2.2.2.1 res.2.2.2.2.1 res.2.2.2.2.2 mod_comes mod_costs mod_next mod_found) pc lv [.int (vI res.1)]) : J p l e ({ frames := 4, cells := 0, slots := 0, locals := 97 } : Room) s m args below meth c D A 5 Q 0 0 (mW b gm mod_thrown mod_places mod_firings mod_fired mod_logged mod_tokens mod_weights mod_logs mod_marks mod_whence mod_by mod_leads mod_comes mod_costs mod_next mod_found) 0 [(0, .ref (b 0)), (1, .int (vI x1)), (2, .int (vI x2))] [] := by
  have J24 : ∀ (l1 : Int) (l2 : Int) (s1 : Int) (mod_thrown : Int) (mod_marks : Nat → Int) (mod_whence : Nat → Int) (mod_by : Nat → Int) (mod_leads : Nat → Int), F_X6_marking_b24 mod_places mod_firings mod_tokens mod_weights l1 l2 s1 mod_thrown mod_marks mod_whence mod_by mod_leads = some res → J p l e ({ frames := 4, cells := 0, slots := 0, locals := 97 } : Room) s m args below meth c D A 5 Q 0 0 (mW b gm mod_thrown mod_places mod_firings mod_fired mod_logged mod_tokens mod_weights mod_logs mod_marks mod_whence mod_by mod_leads mod_comes mod_costs mod_next mod_found) 24 [(0, .ref (b 0)), (1, .int (vI l1)), (2, .int (vI l2))] [.int (vI s1), .ref (b 0)] := by
    intro l1 l2 s1 mod_thrown mod_marks mod_whence mod_by mod_leads h
    unfold F_X6_marking_b24 at h
    obtain ⟨r1, hr1, h⟩ := Ob_of h
    refine q_X6_58 C (wc := (mW b gm mod_thrown mod_places mod_firings mod_fired mod_logged mod_tokens mod_weights mod_logs mod_marks mod_whence mod_by mod_leads mod_comes mod_costs mod_next mod_found)) (wc' := (mW b gm r1.2 mod_places mod_firings mod_fired mod_logged mod_tokens mod_weights mod_logs mod_marks mod_whence mod_by mod_leads mod_comes mod_costs mod_next mod_found)) (c_X6_goesWell l D b gm mod_thrown mod_places mod_firings mod_fired mod_logged mod_tokens mod_weights mod_logs mod_marks mod_whence mod_by mod_leads mod_comes mod_costs mod_next mod_found s1 r1 hr1) ⟨(Nat.le_of_ble_eq_true rfl), (Nat.le_of_ble_eq_true rfl)⟩ rfl rfl 0 rfl rfl (ww _) (ww _) mW_ha C.2.2.2.2.2.2.1 (Nat.le_of_ble_eq_true rfl) rfl rfl (Nat.zero_le _) (Nat.zero_le _) dX6_marking_24 ?_
    refine j_if_ne C h 32 (by decide) dX6_marking_27 (fun c6 h => ?_) (fun c6 h => ?_)
    · refine j_aload_n C 0 rfl rfl dX6_marking_32 ?_
      obtain ⟨r2, hr2, h⟩ := Ob_of h
      refine q_X6_91 C (wc := (mW b gm r1.2 mod_places mod_firings mod_fired mod_logged mod_tokens mod_weights mod_logs mod_marks mod_whence mod_by mod_leads mod_comes mod_costs mod_next mod_found)) (wc' := (mW b gm r1.2 mod_places mod_firings mod_fired mod_logged mod_tokens mod_weights mod_logs r2.2.1 r2.2.2.1 r2.2.2.2.1 r2.2.2.2.2 mod_comes mod_costs mod_next mod_found)) (c_X6_findAll l D b gm r1.2 mod_places mod_firings mod_fired mod_logged mod_tokens mod_weights mod_logs mod_marks mod_whence mod_by mod_leads mod_comes mod_costs mod_next mod_found r2 hr2) ⟨(Nat.le_of_ble_eq_true rfl), (Nat.le_of_ble_eq_true rfl)⟩ rfl rfl 0 rfl rfl (ww _) (ww _) mW_ha C.2.2.2.2.2.2.1 (Nat.le_of_ble_eq_true rfl) rfl rfl (Nat.zero_le _) (Nat.zero_le _) dX6_marking_33 ?_
      refine j_istore C [(4, .int (vI r2.1)), (0, .ref (b 0)), (1, .int (vI l1)), (2, .int (vI l2))] rfl (by decide) dX6_marking_36 ?_
      refine j_iload_n C 2 rfl rfl dX6_marking_38 ?_
      refine j_iload C 0 rfl dX6_marking_39 ?_
      refine j_icmp_ge C h 58 (by decide) dX6_marking_41 (fun c5 h => ?_) (fun c5 h => ?_)
      · refine j_iconst C dX6_marking_58 ?_
        cases h
        exact RET _ _ dX6_marking_59
      · refine j_aload_n C 1 rfl rfl dX6_marking_44 ?_
        refine g_X6_19 C (v := .ref (b 4)) 0 rfl rfl dX6_marking_45 ?_
        refine j_bipush C (by decide) dX6_marking_48 ?_
        refine j_iload_n C 2 rfl rfl dX6_marking_50 ?_
        refine j_imul C dX6_marking_51 ?_
        refine j_iload_n C 3 rfl rfl dX6_marking_52 ?_
        refine j_iadd C dX6_marking_53 ?_
        refine j_nm h (fun v3 h => ?_)
        refine j_iald C 4 3 rfl rfl (Nat.le_of_ble_eq_true rfl) h dX6_marking_54 (fun v4 h => ?_)
        refine j_goto C 59 (by decide) dX6_marking_55 ?_
        cases h
        exact RET _ _ dX6_marking_59
    · refine j_iconst C dX6_marking_30 ?_
      cases h
      exact RET _ _ dX6_marking_31
  unfold F_X6_marking at h
  refine j_aload_n C 0 rfl rfl dX6_marking_0 ?_
  refine j_iload_n C 2 rfl rfl dX6_marking_1 ?_
  obtain ⟨r7, hr7, h⟩ := Ob_of h
  refine q_X6_65 C (wc := (mW b gm mod_thrown mod_places mod_firings mod_fired mod_logged mod_tokens mod_weights mod_logs mod_marks mod_whence mod_by mod_leads mod_comes mod_costs mod_next mod_found)) (wc' := (mW b gm mod_thrown mod_places mod_firings mod_fired mod_logged mod_tokens mod_weights mod_logs mod_marks mod_whence mod_by mod_leads mod_comes mod_costs mod_next mod_found)) (c_X6_isPlace l D b gm mod_thrown mod_places mod_firings mod_fired mod_logged mod_tokens mod_weights mod_logs mod_marks mod_whence mod_by mod_leads mod_comes mod_costs mod_next mod_found x2 r7 hr7) ⟨(Nat.le_of_ble_eq_true rfl), (Nat.le_of_ble_eq_true rfl)⟩ rfl rfl 0 rfl rfl (ww _) (ww _) rfl C.2.2.2.2.2.2.1 (Nat.le_of_ble_eq_true rfl) rfl rfl (Nat.zero_le _) (Nat.zero_le _) dX6_marking_2 ?_
  refine j_istore_n C [(3, .int (vI r7)), (0, .ref (b 0)), (1, .int (vI x1)), (2, .int (vI x2))] rfl rfl (by decide) dX6_marking_5 ?_
  refine j_aload_n C 1 rfl rfl dX6_marking_6 ?_
  refine j_iload_n C 0 rfl rfl dX6_marking_7 ?_
  refine j_if_ne C h 15 (by decide) dX6_marking_8 (fun c9 h => ?_) (fun c9 h => ?_)
  · refine j_iload_n C 2 rfl rfl dX6_marking_15 ?_
    refine j_if_lt C h 23 (by decide) dX6_marking_16 (fun c8 h => ?_) (fun c8 h => ?_)
    · refine j_iconst C dX6_marking_23 ?_
      refine j_lv [1, 2, 3] rfl ?_
      exact J24 x1 x2 2 mod_thrown mod_marks mod_whence mod_by mod_leads h
    · refine j_iconst C dX6_marking_19 ?_
      refine j_goto C 24 (by decide) dX6_marking_20 ?_
      refine j_lv [1, 2, 3] rfl ?_
      exact J24 x1 x2 0 mod_thrown mod_marks mod_whence mod_by mod_leads h
  · refine j_iconst C dX6_marking_11 ?_
    refine j_goto C 24 (by decide) dX6_marking_12 ?_
    refine j_lv [1, 2, 3] rfl ?_
    exact J24 x1 x2 1 mod_thrown mod_marks mod_whence mod_by mod_leads h
theorem c_X6_marking (l : Launch) (D : va_G) (b : Nat → Nat) (gm : Nat → ClassId) (mod_thrown : Int) (mod_places : Int) (mod_firings : Int) (mod_fired : Int) (mod_logged : Int) (mod_tokens : Nat → Int) (mod_weights : Nat → Int) (mod_logs : Nat → Int) (mod_marks : Nat → Int) (mod_whence : Nat → Int) (mod_by : Nat → Int) (mod_leads : Nat → Int) (mod_comes : Nat → Int) (mod_costs : Nat → Int) (mod_next : Nat → Int) (mod_found : Nat → Int) (x1 : Int) (x2 : Int) (res : Int × (Int) × (Nat → Int) × (Nat → Int) × (Nat → Int) × (Nat → Int)) (h : F_X6_marking x1 x2 mod_places mod_firings mod_tokens mod_weights mod_thrown mod_marks mod_whence mod_by mod_leads = some res) : Kt l yX6_marking cX6_marking 5 (some .int) ({ frames := 4, cells := 0, slots := 0, locals := 97 } : Room) D (mT gm) [.ref (b 0), .int (vI x1), .int (vI x2)] (mW b gm mod_thrown mod_places mod_firings mod_fired mod_logged mod_tokens mod_weights mod_logs mod_marks mod_whence mod_by mod_leads mod_comes mod_costs mod_next mod_found) (mW b gm res.2.1 mod_places mod_firings mod_fired mod_logged mod_tokens mod_weights mod_logs res.2.2.1 res.2.2.2.1 res.2.2.2.2.1 res.2.2.2.2.2 mod_comes mod_costs mod_next mod_found) (some (.int (vI res.1))) :=
  kt_i (ty := .int) rfl rfl (by decide +kernel) (Nat.le_of_ble_eq_true rfl) (fun C RET => k_X6_marking C x1 x2 res h RET)
set_option maxRecDepth 100000 in
set_option maxHeartbeats 4000000 in
theorem k_X6_mostOf {b : Nat → Nat} {gm : Nat → ClassId} {mod_thrown : Int} {mod_places : Int} {mod_firings : Int} {mod_fired : Int} {mod_logged : Int} {mod_tokens : Nat → Int} {mod_weights : Nat → Int} {mod_logs : Nat → Int} {mod_marks : Nat → Int} {mod_whence : Nat → Int} {mod_by : Nat → Int} {mod_leads : Nat → Int} {mod_comes : Nat → Int} {mod_costs : Nat → Int} {mod_next : Nat → Int} {mod_found : Nat → Int} (C : JC p s m args meth c cX6_mostOf 5 "MarkingHallModel" D (mT gm) A) (x1 : Int) (x2 : Int) (res : Int) (h : F_X6_mostOf x1 x2 mod_marks = some res) (RET : ∀ (pc : Nat) (lv : List (Nat × Value)), decode cX6_mostOf pc = .ok (.ireturn, 1) → J p l e ({ frames := 0, cells := 0, slots := 0, locals := 0 } : Room) s m args below meth c D A 5 Q 0 0 (mW b gm mod_thrown mod_places mod_firings mod_fired mod_logged mod_tokens mod_weights mod_logs mod_marks mod_whence mod_by mod_leads mod_comes mod_costs mod_next mod_found) pc lv [.int (vI res)]) : J p l e ({ frames := 0, cells := 0, slots := 0, locals := 0 } : Room) s m args below meth c D A 5 Q 0 0 (mW b gm mod_thrown mod_places mod_firings mod_fired mod_logged mod_tokens mod_weights mod_logs mod_marks mod_whence mod_by mod_leads mod_comes mod_costs mod_next mod_found) 0 [(0, .ref (b 0)), (1, .int (vI x1)), (2, .int (vI x2))] [] := by
  have J5 : ∀ (n : Nat) (l1 : Int) (l2 : Int) (l3 : Int) (l4 : Int), F_X6_mostOf_b5 mod_marks n l1 l2 l3 l4 = some res → J p l e ({ frames := 0, cells := 0, slots := 0, locals := 0 } : Room) s m args below meth c D A 5 Q 0 0 (mW b gm mod_thrown mod_places mod_firings mod_fired mod_logged mod_tokens mod_weights mod_logs mod_marks mod_whence mod_by mod_leads mod_comes mod_costs mod_next mod_found) 5 [(0, .ref (b 0)), (1, .int (vI l1)), (2, .int (vI l2)), (3, .int (vI l3)), (4, .int (vI l4))] [] := by
    intro n
    induction n with
    | zero => intro l1 l2 l3 l4 h; exact no_h h
    | succ n ih5 =>
      intro l1 l2 l3 l4 h
      replace h : F_X6_mostOf_b5_body mod_marks (F_X6_mostOf_b5 mod_marks n) l1 l2 l3 l4 = some res := h
      generalize F_X6_mostOf_b5 mod_marks n = ag5 at ih5 h
      have J43 : ∀ (l1 : Int) (l2 : Int) (l4 : Int) (s0 : Int), F_X6_mostOf_b43 mod_marks ag5 l1 l2 l4 s0 = some res → J p l e ({ frames := 0, cells := 0, slots := 0, locals := 0 } : Room) s m args below meth c D A 5 Q 0 0 (mW b gm mod_thrown mod_places mod_firings mod_fired mod_logged mod_tokens mod_weights mod_logs mod_marks mod_whence mod_by mod_leads mod_comes mod_costs mod_next mod_found) 43 [(0, .ref (b 0)), (1, .int (vI l1)), (2, .int (vI l2)), (4, .int (vI l4))] [.int (vI s0)] := by
        intro l1 l2 l4 s0 h
        unfold F_X6_mostOf_b43 at h
        refine j_istore_n C [(3, .int (vI s0)), (0, .ref (b 0)), (1, .int (vI l1)), (2, .int (vI l2)), (4, .int (vI l4))] rfl rfl (by decide) dX6_mostOf_43 ?_
        refine j_iinc C 4 rfl (fun v => [(4, .int (vI v)), (3, .int (vI s0)), (0, .ref (b 0)), (1, .int (vI l1)), (2, .int (vI l2))]) (fun _ => rfl) (by decide) h dX6_mostOf_44 (fun v1 h => ?_)
        refine j_goto C 5 (by decide) dX6_mostOf_47 ?_
        refine j_lv [2, 3, 4, 1, 0] rfl ?_
        exact ih5 l1 l2 s0 v1 h
      unfold F_X6_mostOf_b5_body at h
      refine j_iload C 4 rfl dX6_mostOf_5 ?_
      refine j_iload_n C 2 rfl rfl dX6_mostOf_7 ?_
      refine j_icmp_ge C h 50 (by decide) dX6_mostOf_8 (fun c7 h => ?_) (fun c7 h => ?_)
      · refine j_iload_n C 3 rfl rfl dX6_mostOf_50 ?_
        cases h
        exact RET _ _ dX6_mostOf_51
      · refine j_aload_n C 0 rfl rfl dX6_mostOf_11 ?_
        refine g_X6_19 C (v := .ref (b 4)) 0 rfl rfl dX6_mostOf_12 ?_
        refine j_bipush C (by decide) dX6_mostOf_15 ?_
        refine j_iload C 4 rfl dX6_mostOf_17 ?_
        refine j_imul C dX6_mostOf_19 ?_
        refine j_iload_n C 1 rfl rfl dX6_mostOf_20 ?_
        refine j_iadd C dX6_mostOf_21 ?_
        refine j_nm h (fun v2 h => ?_)
        refine j_iald C 4 3 rfl rfl (Nat.le_of_ble_eq_true rfl) h dX6_mostOf_22 (fun v3 h => ?_)
        refine j_iload_n C 3 rfl rfl dX6_mostOf_23 ?_
        refine j_icmp_le C h 42 (by decide) dX6_mostOf_24 (fun c6 h => ?_) (fun c6 h => ?_)
        · refine j_iload_n C 3 rfl rfl dX6_mostOf_42 ?_
          refine j_lv [0, 1, 2, 4] rfl ?_
          exact J43 l1 l2 l4 l3 h
        · refine j_aload_n C 0 rfl rfl dX6_mostOf_27 ?_
          refine g_X6_19 C (v := .ref (b 4)) 0 rfl rfl dX6_mostOf_28 ?_
          refine j_bipush C (by decide) dX6_mostOf_31 ?_
          refine j_iload C 4 rfl dX6_mostOf_33 ?_
          refine j_imul C dX6_mostOf_35 ?_
          refine j_iload_n C 1 rfl rfl dX6_mostOf_36 ?_
          refine j_iadd C dX6_mostOf_37 ?_
          refine j_nm h (fun v4 h => ?_)
          refine j_iald C 4 3 rfl rfl (Nat.le_of_ble_eq_true rfl) h dX6_mostOf_38 (fun v5 h => ?_)
          refine j_goto C 43 (by decide) dX6_mostOf_39 ?_
          refine j_lv [0, 1, 2, 4] rfl ?_
          exact J43 l1 l2 l4 v5 h
  unfold F_X6_mostOf at h
  refine j_iconst C dX6_mostOf_0 ?_
  refine j_istore_n C [(3, .int (vI (-1))), (0, .ref (b 0)), (1, .int (vI x1)), (2, .int (vI x2))] rfl rfl (by decide) dX6_mostOf_1 ?_
  refine j_iconst C dX6_mostOf_2 ?_
  refine j_istore C [(4, .int (vI 0)), (3, .int (vI (-1))), (0, .ref (b 0)), (1, .int (vI x1)), (2, .int (vI x2))] rfl (by decide) dX6_mostOf_3 ?_
  refine j_lv [2, 3, 4, 1, 0] rfl ?_
  exact J5 NN x1 x2 (-1) 0 h
theorem c_X6_mostOf (l : Launch) (D : va_G) (b : Nat → Nat) (gm : Nat → ClassId) (mod_thrown : Int) (mod_places : Int) (mod_firings : Int) (mod_fired : Int) (mod_logged : Int) (mod_tokens : Nat → Int) (mod_weights : Nat → Int) (mod_logs : Nat → Int) (mod_marks : Nat → Int) (mod_whence : Nat → Int) (mod_by : Nat → Int) (mod_leads : Nat → Int) (mod_comes : Nat → Int) (mod_costs : Nat → Int) (mod_next : Nat → Int) (mod_found : Nat → Int) (x1 : Int) (x2 : Int) (res : Int) (h : F_X6_mostOf x1 x2 mod_marks = some res) : Kt l yX6_mostOf cX6_mostOf 5 (some .int) ({ frames := 0, cells := 0, slots := 0, locals := 0 } : Room) D (mT gm) [.ref (b 0), .int (vI x1), .int (vI x2)] (mW b gm mod_thrown mod_places mod_firings mod_fired mod_logged mod_tokens mod_weights mod_logs mod_marks mod_whence mod_by mod_leads mod_comes mod_costs mod_next mod_found) (mW b gm mod_thrown mod_places mod_firings mod_fired mod_logged mod_tokens mod_weights mod_logs mod_marks mod_whence mod_by mod_leads mod_comes mod_costs mod_next mod_found) (some (.int (vI res))) :=
  kt_i (ty := .int) rfl rfl (by decide +kernel) (Nat.le_of_ble_eq_true rfl) (fun C RET => k_X6_mostOf C x1 x2 res h RET)
set_option maxRecDepth 100000 in
set_option maxHeartbeats 4000000 in
theorem k_X6_most {b : Nat → Nat} {gm : Nat → ClassId} {mod_thrown : Int} {mod_places : Int} {mod_firings : Int} {mod_fired : Int} {mod_logged : Int} {mod_tokens : Nat → Int} {mod_weights : Nat → Int} {mod_logs : Nat → Int} {mod_marks : Nat → Int} {mod_whence : Nat → Int} {mod_by : Nat → Int} {mod_leads : Nat → Int} {mod_comes : Nat → Int} {mod_costs : Nat → Int} {mod_next : Nat → Int} {mod_found : Nat → Int} (C : JC p s m args meth c cX6_most 2 "MarkingHallModel" D (mT gm) A) (x1 : Int) (res : Int × (Int) × (Nat → Int) × (Nat → Int) × (Nat → Int) × (Nat → Int)) (h : F_X6_most x1 mod_places mod_firings mod_tokens mod_weights mod_thrown mod_marks mod_whence mod_by mod_leads = some res) (RET : ∀ (pc : Nat) (lv : List (Nat × Value)), decode cX6_most pc = .ok (.ireturn, 1) → J p l e ({ frames := 4, cells := 0, slots := 0, locals := 97 } : Room) s m args below meth c D A 2 Q 0 0 (mW b gm res.2.1 mod_places mod_firings mod_fired mod_logged mod_tokens mod_weights mod_logs res.2.2.1 res.2.2.2.1 res.2.2.2.2.1 res.2.2.2.2.2 mod_comes mod_costs mod_next mod_found) pc lv [.int (vI res.1)]) : J p l e ({ frames := 4, cells := 0, slots := 0, locals := 97 } : Room) s m args below meth c D A 2 Q 0 0 (mW b gm mod_thrown mod_places mod_firings mod_fired mod_logged mod_tokens mod_weights mod_logs mod_marks mod_whence mod_by mod_leads mod_comes mod_costs mod_next mod_found) 0 [(0, .ref (b 0)), (1, .int (vI x1))] [] := by
  have J14 : ∀ (l1 : Int) (s1 : Int) (mod_thrown : Int) (mod_marks : Nat → Int) (mod_whence : Nat → Int) (mod_by : Nat → Int) (mod_leads : Nat → Int), F_X6_most_b14 mod_places mod_firings mod_tokens mod_weights l1 s1 mod_thrown mod_marks mod_whence mod_by mod_leads = some res → J p l e ({ frames := 4, cells := 0, slots := 0, locals := 97 } : Room) s m args below meth c D A 2 Q 0 0 (mW b gm mod_thrown mod_places mod_firings mod_fired mod_logged mod_tokens mod_weights mod_logs mod_marks mod_whence mod_by mod_leads mod_comes mod_costs mod_next mod_found) 14 [(0, .ref (b 0)), (1, .int (vI l1))] [.int (vI s1), .ref (b 0)] := by
    intro l1 s1 mod_thrown mod_marks mod_whence mod_by mod_leads h
    unfold F_X6_most_b14 at h
    obtain ⟨r1, hr1, h⟩ := Ob_of h
    refine q_X6_58 C (wc := (mW b gm mod_thrown mod_places mod_firings mod_fired mod_logged mod_tokens mod_weights mod_logs mod_marks mod_whence mod_by mod_leads mod_comes mod_costs mod_next mod_found)) (wc' := (mW b gm r1.2 mod_places mod_firings mod_fired mod_logged mod_tokens mod_weights mod_logs mod_marks mod_whence mod_by mod_leads mod_comes mod_costs mod_next mod_found)) (c_X6_goesWell l D b gm mod_thrown mod_places mod_firings mod_fired mod_logged mod_tokens mod_weights mod_logs mod_marks mod_whence mod_by mod_leads mod_comes mod_costs mod_next mod_found s1 r1 hr1) ⟨(Nat.le_of_ble_eq_true rfl), (Nat.le_of_ble_eq_true rfl)⟩ rfl rfl 0 rfl rfl (ww _) (ww _) mW_ha C.2.2.2.2.2.2.1 (Nat.le_of_ble_eq_true rfl) rfl rfl (Nat.zero_le _) (Nat.zero_le _) dX6_most_14 ?_
    refine j_if_eq C h 32 (by decide) dX6_most_17 (fun c4 h => ?_) (fun c4 h => ?_)
    · refine j_iconst C dX6_most_32 ?_
      cases h
      exact RET _ _ dX6_most_33
    · refine j_aload_n C 0 rfl rfl dX6_most_20 ?_
      refine j_iload_n C 1 rfl rfl dX6_most_21 ?_
      refine j_aload_n C 0 rfl rfl dX6_most_22 ?_
      obtain ⟨r2, hr2, h⟩ := Ob_of h
      refine q_X6_91 C (wc := (mW b gm r1.2 mod_places mod_firings mod_fired mod_logged mod_tokens mod_weights mod_logs mod_marks mod_whence mod_by mod_leads mod_comes mod_costs mod_next mod_found)) (wc' := (mW b gm r1.2 mod_places mod_firings mod_fired mod_logged mod_tokens mod_weights mod_logs r2.2.1 r2.2.2.1 r2.2.2.2.1 r2.2.2.2.2 mod_comes mod_costs mod_next mod_found)) (c_X6_findAll l D b gm r1.2 mod_places mod_firings mod_fired mod_logged mod_tokens mod_weights mod_logs mod_marks mod_whence mod_by mod_leads mod_comes mod_costs mod_next mod_found r2 hr2) ⟨(Nat.le_of_ble_eq_true rfl), (Nat.le_of_ble_eq_true rfl)⟩ rfl rfl 0 rfl rfl (ww _) (ww _) mW_ha C.2.2.2.2.2.2.1 (Nat.le_of_ble_eq_true rfl) rfl rfl (Nat.zero_le _) (Nat.zero_le _) dX6_most_23 ?_
      obtain ⟨r3, hr3, h⟩ := Ob_of h
      refine q_X6_106 C (wc := (mW b gm r1.2 mod_places mod_firings mod_fired mod_logged mod_tokens mod_weights mod_logs r2.2.1 r2.2.2.1 r2.2.2.2.1 r2.2.2.2.2 mod_comes mod_costs mod_next mod_found)) (wc' := (mW b gm r1.2 mod_places mod_firings mod_fired mod_logged mod_tokens mod_weights mod_logs r2.2.1 r2.2.2.1 r2.2.2.2.1 r2.2.2.2.2 mod_comes mod_costs mod_next mod_found)) (c_X6_mostOf l D b gm r1.2 mod_places mod_firings mod_fired mod_logged mod_tokens mod_weights mod_logs r2.2.1 r2.2.2.1 r2.2.2.2.1 r2.2.2.2.2 mod_comes mod_costs mod_next mod_found l1 r2.1 r3 hr3) ⟨(Nat.le_of_ble_eq_true rfl), (Nat.le_of_ble_eq_true rfl)⟩ rfl rfl 0 rfl rfl (ww _) (ww _) rfl C.2.2.2.2.2.2.1 (Nat.le_of_ble_eq_true rfl) rfl rfl (Nat.zero_le _) (Nat.zero_le _) dX6_most_26 ?_
      refine j_goto C 33 (by decide) dX6_most_29 ?_
      cases h
      exact RET _ _ dX6_most_33
  unfold F_X6_most at h
  refine j_aload_n C 0 rfl rfl dX6_most_0 ?_
  refine j_aload_n C 0 rfl rfl dX6_most_1 ?_
  refine j_iload_n C 1 rfl rfl dX6_most_2 ?_
  obtain ⟨r5, hr5, h⟩ := Ob_of h
  refine q_X6_65 C (wc := (mW b gm mod_thrown mod_places mod_firings mod_fired mod_logged mod_tokens mod_weights mod_logs mod_marks mod_whence mod_by mod_leads mod_comes mod_costs mod_next mod_found)) (wc' := (mW b gm mod_thrown mod_places mod_firings mod_fired mod_logged mod_tokens mod_weights mod_logs mod_marks mod_whence mod_by mod_leads mod_comes mod_costs mod_next mod_found)) (c_X6_isPlace l D b gm mod_thrown mod_places mod_firings mod_fired mod_logged mod_tokens mod_weights mod_logs mod_marks mod_whence mod_by mod_leads mod_comes mod_costs mod_next mod_found x1 r5 hr5) ⟨(Nat.le_of_ble_eq_true rfl), (Nat.le_of_ble_eq_true rfl)⟩ rfl rfl 0 rfl rfl (ww _) (ww _) rfl C.2.2.2.2.2.2.1 (Nat.le_of_ble_eq_true rfl) rfl rfl (Nat.zero_le _) (Nat.zero_le _) dX6_most_3 ?_
  refine j_if_eq C h 13 (by decide) dX6_most_6 (fun c6 h => ?_) (fun c6 h => ?_)
  · refine j_iconst C dX6_most_13 ?_
    exact J14 x1 1 mod_thrown mod_marks mod_whence mod_by mod_leads h
  · refine j_iconst C dX6_most_9 ?_
    refine j_goto C 14 (by decide) dX6_most_10 ?_
    exact J14 x1 0 mod_thrown mod_marks mod_whence mod_by mod_leads h
theorem c_X6_most (l : Launch) (D : va_G) (b : Nat → Nat) (gm : Nat → ClassId) (mod_thrown : Int) (mod_places : Int) (mod_firings : Int) (mod_fired : Int) (mod_logged : Int) (mod_tokens : Nat → Int) (mod_weights : Nat → Int) (mod_logs : Nat → Int) (mod_marks : Nat → Int) (mod_whence : Nat → Int) (mod_by : Nat → Int) (mod_leads : Nat → Int) (mod_comes : Nat → Int) (mod_costs : Nat → Int) (mod_next : Nat → Int) (mod_found : Nat → Int) (x1 : Int) (res : Int × (Int) × (Nat → Int) × (Nat → Int) × (Nat → Int) × (Nat → Int)) (h : F_X6_most x1 mod_places mod_firings mod_tokens mod_weights mod_thrown mod_marks mod_whence mod_by mod_leads = some res) : Kt l yX6_most cX6_most 2 (some .int) ({ frames := 4, cells := 0, slots := 0, locals := 97 } : Room) D (mT gm) [.ref (b 0), .int (vI x1)] (mW b gm mod_thrown mod_places mod_firings mod_fired mod_logged mod_tokens mod_weights mod_logs mod_marks mod_whence mod_by mod_leads mod_comes mod_costs mod_next mod_found) (mW b gm res.2.1 mod_places mod_firings mod_fired mod_logged mod_tokens mod_weights mod_logs res.2.2.1 res.2.2.2.1 res.2.2.2.2.1 res.2.2.2.2.2 mod_comes mod_costs mod_next mod_found) (some (.int (vI res.1))) :=
  kt_i (ty := .int) rfl rfl (by decide +kernel) (Nat.le_of_ble_eq_true rfl) (fun C RET => k_X6_most C x1 res h RET)
end WK
