section WK
variable {p : Program} {l : Launch} {e : Env} {s : State} {m : MethodId} {args : Array Value} {below : List Frame} {meth : Method} {c : Code} {D : va_G} {A : Nat → Prop} {Q : State → Prop}
set_option maxRecDepth 100000 in
set_option maxHeartbeats 4000000 in
theorem k_X6_mostByRows {b : Nat → Nat} {gm : Nat → ClassId} {mod_thrown : Int} {mod_places : Int} {mod_firings : Int} {mod_fired : Int} {mod_logged : Int} {mod_tokens : Nat → Int} {mod_weights : Nat → Int} {mod_logs : Nat → Int} {mod_marks : Nat → Int} {mod_whence : Nat → Int} {mod_by : Nat → Int} {mod_leads : Nat → Int} {mod_comes : Nat → Int} {mod_costs : Nat → Int} {mod_next : Nat → Int} {mod_found : Nat → Int} (C : JC p s m args meth c cX6_mostByRows 2 "MarkingHallModel" D (mT gm) A) (x1 : Int) (res : Int × (Int) × (Nat → Int) × (Nat → Int)) (h : F_X6_mostByRows x1 mod_places mod_firings mod_tokens mod_weights mod_thrown mod_marks mod_found = some res) (RET : ∀ (pc : Nat) (lv : List (Nat × Value)), decode cX6_mostByRows pc = .ok (.ireturn, 1) → J p l e ({ frames := 4, cells := 0, slots := 0, locals := 98 } : Room) s m args below meth c D A 2 Q 0 0 (mW b gm res.2.1 mod_places mod_firings mod_fired mod_logged mod_tokens mod_weights mod_logs res.2.2.1 mod_whence mod_by mod_leads mod_comes mod_costs mod_next res.2.2.2) pc lv [.int (vI res.1)]) : J p l e ({ frames := 4, cells := 0, slots := 0, locals := 98 } : Room) s m args below meth c D A 2 Q 0 0 (mW b gm mod_thrown mod_places mod_firings mod_fired mod_logged mod_tokens mod_weights mod_logs mod_marks mod_whence mod_by mod_leads mod_comes mod_costs mod_next mod_found) 0 [(0, .ref (b 0)), (1, .int (vI x1))] [] := by
  have J14 : ∀ (l1 : Int) (s1 : Int) (mod_thrown : Int) (mod_marks : Nat → Int) (mod_found : Nat → Int), F_X6_mostByRows_b14 mod_places mod_firings mod_tokens mod_weights l1 s1 mod_thrown mod_marks mod_found = some res → J p l e ({ frames := 4, cells := 0, slots := 0, locals := 98 } : Room) s m args below meth c D A 2 Q 0 0 (mW b gm mod_thrown mod_places mod_firings mod_fired mod_logged mod_tokens mod_weights mod_logs mod_marks mod_whence mod_by mod_leads mod_comes mod_costs mod_next mod_found) 14 [(0, .ref (b 0)), (1, .int (vI l1))] [.int (vI s1), .ref (b 0)] := by
    intro l1 s1 mod_thrown mod_marks mod_found h
    unfold F_X6_mostByRows_b14 at h
    obtain ⟨r1, hr1, h⟩ := Ob_of h
    refine q_X6_58 C (wc := (mW b gm mod_thrown mod_places mod_firings mod_fired mod_logged mod_tokens mod_weights mod_logs mod_marks mod_whence mod_by mod_leads mod_comes mod_costs mod_next mod_found)) (wc' := (mW b gm r1.2 mod_places mod_firings mod_fired mod_logged mod_tokens mod_weights mod_logs mod_marks mod_whence mod_by mod_leads mod_comes mod_costs mod_next mod_found)) (c_X6_goesWell l D b gm mod_thrown mod_places mod_firings mod_fired mod_logged mod_tokens mod_weights mod_logs mod_marks mod_whence mod_by mod_leads mod_comes mod_costs mod_next mod_found s1 r1 hr1) ⟨(Nat.le_of_ble_eq_true rfl), (Nat.le_of_ble_eq_true rfl)⟩ rfl rfl 0 rfl rfl (ww _) (ww _) mW_ha C.2.2.2.2.2.2.1 (Nat.le_of_ble_eq_true rfl) rfl rfl (Nat.zero_le _) (Nat.zero_le _) dX6_mostByRows_14 ?_
    refine j_if_eq C h 33 (by decide) dX6_mostByRows_17 (fun c4 h => ?_) (fun c4 h => ?_)
    · refine j_iconst C dX6_mostByRows_33 ?_
      cases h
      exact RET _ _ dX6_mostByRows_34
    · refine j_aload_n C 0 rfl rfl dX6_mostByRows_20 ?_
      refine j_iload_n C 1 rfl rfl dX6_mostByRows_21 ?_
      refine j_aload_n C 0 rfl rfl dX6_mostByRows_22 ?_
      refine j_iconst C dX6_mostByRows_23 ?_
      obtain ⟨r2, hr2, h⟩ := Ob_of h
      refine q_X6_132 C (wc := (mW b gm r1.2 mod_places mod_firings mod_fired mod_logged mod_tokens mod_weights mod_logs mod_marks mod_whence mod_by mod_leads mod_comes mod_costs mod_next mod_found)) (wc' := (mW b gm r1.2 mod_places mod_firings mod_fired mod_logged mod_tokens mod_weights mod_logs mod_marks mod_whence mod_by mod_leads mod_comes mod_costs mod_next r2.2)) (c_X6_findLeast l D b gm r1.2 mod_places mod_firings mod_fired mod_logged mod_tokens mod_weights mod_logs mod_marks mod_whence mod_by mod_leads mod_comes mod_costs mod_next mod_found 1 r2 hr2) ⟨(Nat.le_of_ble_eq_true rfl), (Nat.le_of_ble_eq_true rfl)⟩ rfl rfl 0 rfl rfl (ww _) (ww _) mW_ha C.2.2.2.2.2.2.1 (Nat.le_of_ble_eq_true rfl) rfl rfl (Nat.zero_le _) (Nat.zero_le _) dX6_mostByRows_24 ?_
      obtain ⟨r3, hr3, h⟩ := Ob_of h
      refine q_X6_139 C (wc := (mW b gm r1.2 mod_places mod_firings mod_fired mod_logged mod_tokens mod_weights mod_logs mod_marks mod_whence mod_by mod_leads mod_comes mod_costs mod_next r2.2)) (wc' := (mW b gm r1.2 mod_places mod_firings mod_fired mod_logged mod_tokens mod_weights mod_logs r3.2 mod_whence mod_by mod_leads mod_comes mod_costs mod_next r2.2)) (c_X6_boundOf l D b gm r1.2 mod_places mod_firings mod_fired mod_logged mod_tokens mod_weights mod_logs mod_marks mod_whence mod_by mod_leads mod_comes mod_costs mod_next r2.2 l1 r2.1 r3 hr3) ⟨(Nat.le_of_ble_eq_true rfl), (Nat.le_of_ble_eq_true rfl)⟩ rfl rfl 0 rfl rfl (ww _) (ww _) mW_ha C.2.2.2.2.2.2.1 (Nat.le_of_ble_eq_true rfl) rfl rfl (Nat.zero_le _) (Nat.zero_le _) dX6_mostByRows_27 ?_
      refine j_goto C 34 (by decide) dX6_mostByRows_30 ?_
      cases h
      exact RET _ _ dX6_mostByRows_34
  unfold F_X6_mostByRows at h
  refine j_aload_n C 0 rfl rfl dX6_mostByRows_0 ?_
  refine j_aload_n C 0 rfl rfl dX6_mostByRows_1 ?_
  refine j_iload_n C 1 rfl rfl dX6_mostByRows_2 ?_
  obtain ⟨r5, hr5, h⟩ := Ob_of h
  refine q_X6_65 C (wc := (mW b gm mod_thrown mod_places mod_firings mod_fired mod_logged mod_tokens mod_weights mod_logs mod_marks mod_whence mod_by mod_leads mod_comes mod_costs mod_next mod_found)) (wc' := (mW b gm mod_thrown mod_places mod_firings mod_fired mod_logged mod_tokens mod_weights mod_logs mod_marks mod_whence mod_by mod_leads mod_comes mod_costs mod_next mod_found)) (c_X6_isPlace l D b gm mod_thrown mod_places mod_firings mod_fired mod_logged mod_tokens mod_weights mod_logs mod_marks mod_whence mod_by mod_leads mod_comes mod_costs mod_next mod_found x1 r5 hr5) ⟨(Nat.le_of_ble_eq_true rfl), (Nat.le_of_ble_eq_true rfl)⟩ rfl rfl 0 rfl rfl (ww _) (ww _) rfl C.2.2.2.2.2.2.1 (Nat.le_of_ble_eq_true rfl) rfl rfl (Nat.zero_le _) (Nat.zero_le _) dX6_mostByRows_3 ?_
  refine j_if_eq C h 13 (by decide) dX6_mostByRows_6 (fun c6 h => ?_) (fun c6 h => ?_)
  · refine j_iconst C dX6_mostByRows_13 ?_
    exact J14 x1 1 mod_thrown mod_marks mod_found h
  · refine j_iconst C dX6_mostByRows_9 ?_
    refine j_goto C 14 (by decide) dX6_mostByRows_10 ?_
    exact J14 x1 0 mod_thrown mod_marks mod_found h
theorem c_X6_mostByRows (l : Launch) (D : va_G) (b : Nat → Nat) (gm : Nat → ClassId) (mod_thrown : Int) (mod_places : Int) (mod_firings : Int) (mod_fired : Int) (mod_logged : Int) (mod_tokens : Nat → Int) (mod_weights : Nat → Int) (mod_logs : Nat → Int) (mod_marks : Nat → Int) (mod_whence : Nat → Int) (mod_by : Nat → Int) (mod_leads : Nat → Int) (mod_comes : Nat → Int) (mod_costs : Nat → Int) (mod_next : Nat → Int) (mod_found : Nat → Int) (x1 : Int) (res : Int × (Int) × (Nat → Int) × (Nat → Int)) (h : F_X6_mostByRows x1 mod_places mod_firings mod_tokens mod_weights mod_thrown mod_marks mod_found = some res) : Kt l yX6_mostByRows cX6_mostByRows 2 (some .int) ({ frames := 4, cells := 0, slots := 0, locals := 98 } : Room) D (mT gm) [.ref (b 0), .int (vI x1)] (mW b gm mod_thrown mod_places mod_firings mod_fired mod_logged mod_tokens mod_weights mod_logs mod_marks mod_whence mod_by mod_leads mod_comes mod_costs mod_next mod_found) (mW b gm res.2.1 mod_places mod_firings mod_fired mod_logged mod_tokens mod_weights mod_logs res.2.2.1 mod_whence mod_by mod_leads mod_comes mod_costs mod_next res.2.2.2) (some (.int (vI res.1))) :=
  kt_i (ty := .int) rfl rfl (by decide +kernel) (Nat.le_of_ble_eq_true rfl) (fun C RET => k_X6_mostByRows C x1 res h RET)
set_option maxRecDepth 100000 in
set_option maxHeartbeats 4000000 in
theorem k_X6_rounds {b : Nat → Nat} {gm : Nat → ClassId} {mod_thrown : Int} {mod_places : Int} {mod_firings : Int} {mod_fired : Int} {mod_logged : Int} {mod_tokens : Nat → Int} {mod_weights : Nat → Int} {mod_logs : Nat → Int} {mod_marks : Nat → Int} {mod_whence : Nat → Int} {mod_by : Nat → Int} {mod_leads : Nat → Int} {mod_comes : Nat → Int} {mod_costs : Nat → Int} {mod_next : Nat → Int} {mod_found : Nat → Int} (C : JC p s m args meth c cX6_rounds 1 "MarkingHallModel" D (mT gm) A)  (res : Int × (Int) × (Nat → Int)) (h : F_X6_rounds mod_places mod_firings mod_weights mod_thrown mod_found = some res) (RET : ∀ (pc : Nat) (lv : List (Nat × Value)), decode cX6_rounds pc = .ok (.ireturn, 1) → J p l e ({ frames := 4, cells := 0, slots := 0, locals := 98 } : Room) s m args below meth c D A 1 Q 0 0 (mW b gm res.2.1 mod_places mod_firings mod_fired mod_logged mod_tokens mod_weights mod_logs mod_marks mod_whence mod_by mod_leads mod_comes mod_costs mod_next res.2.2) pc lv [.int (vI res.1)]) : J p l e ({ frames := 4, cells := 0, slots := 0, locals := 98 } : Room) s m args below meth c D A 1 Q 0 0 (mW b gm mod_thrown mod_places mod_firings mod_fired mod_logged mod_tokens mod_weights mod_logs mod_marks mod_whence mod_by mod_leads mod_comes mod_costs mod_next mod_found) 0 [(0, .ref (b 0))] [] := by
  unfold F_X6_rounds at h
  refine j_aload_n C 0 rfl rfl dX6_rounds_0 ?_
  refine j_iconst C dX6_rounds_1 ?_
  refine p_X6_44 C 0 rfl (Nat.le_of_ble_eq_true rfl) (mW b gm 0 mod_places mod_firings mod_fired mod_logged mod_tokens mod_weights mod_logs mod_marks mod_whence mod_by mod_leads mod_comes mod_costs mod_next mod_found) rfl dX6_rounds_2 ?_
  refine j_aload_n C 0 rfl rfl dX6_rounds_5 ?_
  refine j_iconst C dX6_rounds_6 ?_
  obtain ⟨r1, hr1, h⟩ := Ob_of h
  refine q_X6_132 C (wc := (mW b gm 0 mod_places mod_firings mod_fired mod_logged mod_tokens mod_weights mod_logs mod_marks mod_whence mod_by mod_leads mod_comes mod_costs mod_next mod_found)) (wc' := (mW b gm 0 mod_places mod_firings mod_fired mod_logged mod_tokens mod_weights mod_logs mod_marks mod_whence mod_by mod_leads mod_comes mod_costs mod_next r1.2)) (c_X6_findLeast l D b gm 0 mod_places mod_firings mod_fired mod_logged mod_tokens mod_weights mod_logs mod_marks mod_whence mod_by mod_leads mod_comes mod_costs mod_next mod_found 0 r1 hr1) ⟨(Nat.le_of_ble_eq_true rfl), (Nat.le_of_ble_eq_true rfl)⟩ rfl rfl 0 rfl rfl (ww _) (ww _) mW_ha C.2.2.2.2.2.2.1 (Nat.le_of_ble_eq_true rfl) rfl rfl (Nat.zero_le _) (Nat.zero_le _) dX6_rounds_7 ?_
  cases h
  exact RET _ _ dX6_rounds_10
theorem c_X6_rounds (l : Launch) (D : va_G) (b : Nat → Nat) (gm : Nat → ClassId) (mod_thrown : Int) (mod_places : Int) (mod_firings : Int) (mod_fired : Int) (mod_logged : Int) (mod_tokens : Nat → Int) (mod_weights : Nat → Int) (mod_logs : Nat → Int) (mod_marks : Nat → Int) (mod_whence : Nat → Int) (mod_by : Nat → Int) (mod_leads : Nat → Int) (mod_comes : Nat → Int) (mod_costs : Nat → Int) (mod_next : Nat → Int) (mod_found : Nat → Int)  (res : Int × (Int) × (Nat → Int)) (h : F_X6_rounds mod_places mod_firings mod_weights mod_thrown mod_found = some res) : Kt l yX6_rounds cX6_rounds 1 (some .int) ({ frames := 4, cells := 0, slots := 0, locals := 98 } : Room) D (mT gm) [.ref (b 0)] (mW b gm mod_thrown mod_places mod_firings mod_fired mod_logged mod_tokens mod_weights mod_logs mod_marks mod_whence mod_by mod_leads mod_comes mod_costs mod_next mod_found) (mW b gm res.2.1 mod_places mod_firings mod_fired mod_logged mod_tokens mod_weights mod_logs mod_marks mod_whence mod_by mod_leads mod_comes mod_costs mod_next res.2.2) (some (.int (vI res.1))) :=
  kt_i (ty := .int) rfl rfl (by decide +kernel) (Nat.le_of_ble_eq_true rfl) (fun C RET => k_X6_rounds C res h RET)
set_option maxRecDepth 100000 in
set_option maxHeartbeats 4000000 in
theorem k_X6_round {b : Nat → Nat} {gm : Nat → ClassId} {mod_thrown : Int} {mod_places : Int} {mod_firings : Int} {mod_fired : Int} {mod_logged : Int} {mod_tokens : Nat → Int} {mod_weights : Nat → Int} {mod_logs : Nat → Int} {mod_marks : Nat → Int} {mod_whence : Nat → Int} {mod_by : Nat → Int} {mod_leads : Nat → Int} {mod_comes : Nat → Int} {mod_costs : Nat → Int} {mod_next : Nat → Int} {mod_found : Nat → Int} (C : JC p s m args meth c cX6_round 3 "MarkingHallModel" D (mT gm) A) (x1 : Int) (x2 : Int) (res : Int × (Int) × (Nat → Int)) (h : F_X6_round x1 x2 mod_places mod_firings mod_weights mod_thrown mod_found = some res) (RET : ∀ (pc : Nat) (lv : List (Nat × Value)), decode cX6_round pc = .ok (.ireturn, 1) → J p l e ({ frames := 4, cells := 0, slots := 0, locals := 98 } : Room) s m args below meth c D A 3 Q 0 0 (mW b gm res.2.1 mod_places mod_firings mod_fired mod_logged mod_tokens mod_weights mod_logs mod_marks mod_whence mod_by mod_leads mod_comes mod_costs mod_next res.2.2) pc lv [.int (vI res.1)]) : J p l e ({ frames := 4, cells := 0, slots := 0, locals := 98 } : Room) s m args below meth c D A 3 Q 0 0 (mW b gm mod_thrown mod_places mod_firings mod_fired mod_logged mod_tokens mod_weights mod_logs mod_marks mod_whence mod_by mod_leads mod_comes mod_costs mod_next mod_found) 0 [(0, .ref (b 0)), (1, .int (vI x1)), (2, .int (vI x2))] [] := by
  have J29 : ∀ (l1 : Int) (l2 : Int) (s1 : Int) (mod_thrown : Int) (mod_found : Nat → Int), F_X6_round_b29 mod_places mod_firings mod_weights l1 l2 s1 mod_thrown mod_found = some res → J p l e ({ frames := 4, cells := 0, slots := 0, locals := 98 } : Room) s m args below meth c D A 3 Q 0 0 (mW b gm mod_thrown mod_places mod_firings mod_fired mod_logged mod_tokens mod_weights mod_logs mod_marks mod_whence mod_by mod_leads mod_comes mod_costs mod_next mod_found) 29 [(0, .ref (b 0)), (1, .int (vI l1)), (2, .int (vI l2))] [.int (vI s1), .ref (b 0)] := by
    intro l1 l2 s1 mod_thrown mod_found h
    unfold F_X6_round_b29 at h
    obtain ⟨r1, hr1, h⟩ := Ob_of h
    refine q_X6_58 C (wc := (mW b gm mod_thrown mod_places mod_firings mod_fired mod_logged mod_tokens mod_weights mod_logs mod_marks mod_whence mod_by mod_leads mod_comes mod_costs mod_next mod_found)) (wc' := (mW b gm r1.2 mod_places mod_firings mod_fired mod_logged mod_tokens mod_weights mod_logs mod_marks mod_whence mod_by mod_leads mod_comes mod_costs mod_next mod_found)) (c_X6_goesWell l D b gm mod_thrown mod_places mod_firings mod_fired mod_logged mod_tokens mod_weights mod_logs mod_marks mod_whence mod_by mod_leads mod_comes mod_costs mod_next mod_found s1 r1 hr1) ⟨(Nat.le_of_ble_eq_true rfl), (Nat.le_of_ble_eq_true rfl)⟩ rfl rfl 0 rfl rfl (ww _) (ww _) mW_ha C.2.2.2.2.2.2.1 (Nat.le_of_ble_eq_true rfl) rfl rfl (Nat.zero_le _) (Nat.zero_le _) dX6_round_29 ?_
    refine j_if_eq C h 53 (by decide) dX6_round_32 (fun c4 h => ?_) (fun c4 h => ?_)
    · refine j_iconst C dX6_round_53 ?_
      cases h
      exact RET _ _ dX6_round_54
    · refine j_aload_n C 0 rfl rfl dX6_round_35 ?_
      refine g_X6_41 C (v := .ref (b 11)) 0 rfl rfl dX6_round_36 ?_
      refine j_iload_n C 1 rfl rfl dX6_round_39 ?_
      refine j_iald C 11 10 rfl rfl (Nat.le_of_ble_eq_true rfl) h dX6_round_40 (fun v2 h => ?_)
      refine j_iconst C dX6_round_41 ?_
      refine j_aload_n C 0 rfl rfl dX6_round_42 ?_
      refine g_X6_55 C (v := .int (vI mod_firings)) 0 rfl rfl dX6_round_43 ?_
      refine j_iload_n C 2 rfl rfl dX6_round_46 ?_
      obtain ⟨r3, hr3, h⟩ := Ob_of h
      refine q_X6_116 C (wc := (mW b gm r1.2 mod_places mod_firings mod_fired mod_logged mod_tokens mod_weights mod_logs mod_marks mod_whence mod_by mod_leads mod_comes mod_costs mod_next mod_found)) (wc' := (mW b gm r1.2 mod_places mod_firings mod_fired mod_logged mod_tokens mod_weights mod_logs mod_marks mod_whence mod_by mod_leads mod_comes mod_costs mod_next mod_found)) (c_X6_digit l D _ _ v2 3 mod_firings l2 r3 hr3) ⟨(Nat.le_of_ble_eq_true rfl), (Nat.le_of_ble_eq_true rfl)⟩ rfl rfl rfl (ww _) (ww _) rfl C.2.2.2.2.2.2.1 (Nat.le_of_ble_eq_true rfl) rfl rfl (Nat.zero_le _) (Nat.zero_le _) dX6_round_47 ?_
      refine j_goto C 54 (by decide) dX6_round_50 ?_
      cases h
      exact RET _ _ dX6_round_54
  have J28 : ∀ (l1 : Int) (l2 : Int) (mod_thrown : Int) (mod_found : Nat → Int), F_X6_round_b28 mod_places mod_firings mod_weights l1 l2 mod_thrown mod_found = some res → J p l e ({ frames := 4, cells := 0, slots := 0, locals := 98 } : Room) s m args below meth c D A 3 Q 0 0 (mW b gm mod_thrown mod_places mod_firings mod_fired mod_logged mod_tokens mod_weights mod_logs mod_marks mod_whence mod_by mod_leads mod_comes mod_costs mod_next mod_found) 28 [(0, .ref (b 0)), (1, .int (vI l1)), (2, .int (vI l2))] [.ref (b 0)] := by
    intro l1 l2 mod_thrown mod_found h
    unfold F_X6_round_b28 at h
    refine j_iconst C dX6_round_28 ?_
    exact J29 l1 l2 1 mod_thrown mod_found h
  unfold F_X6_round at h
  refine j_aload_n C 0 rfl rfl dX6_round_0 ?_
  refine j_iload_n C 1 rfl rfl dX6_round_1 ?_
  refine j_iconst C dX6_round_2 ?_
  refine j_aload_n C 0 rfl rfl dX6_round_3 ?_
  refine j_iconst C dX6_round_4 ?_
  obtain ⟨r5, hr5, h⟩ := Ob_of h
  refine q_X6_132 C (wc := (mW b gm mod_thrown mod_places mod_firings mod_fired mod_logged mod_tokens mod_weights mod_logs mod_marks mod_whence mod_by mod_leads mod_comes mod_costs mod_next mod_found)) (wc' := (mW b gm mod_thrown mod_places mod_firings mod_fired mod_logged mod_tokens mod_weights mod_logs mod_marks mod_whence mod_by mod_leads mod_comes mod_costs mod_next r5.2)) (c_X6_findLeast l D b gm mod_thrown mod_places mod_firings mod_fired mod_logged mod_tokens mod_weights mod_logs mod_marks mod_whence mod_by mod_leads mod_comes mod_costs mod_next mod_found 0 r5 hr5) ⟨(Nat.le_of_ble_eq_true rfl), (Nat.le_of_ble_eq_true rfl)⟩ rfl rfl 0 rfl rfl (ww _) (ww _) mW_ha C.2.2.2.2.2.2.1 (Nat.le_of_ble_eq_true rfl) rfl rfl (Nat.zero_le _) (Nat.zero_le _) dX6_round_5 ?_
  refine j_iconst C dX6_round_8 ?_
  refine j_isub C dX6_round_9 ?_
  obtain ⟨r6, hr6, h⟩ := Ob_of h
  refine q_X6_51 C (wc := (mW b gm mod_thrown mod_places mod_firings mod_fired mod_logged mod_tokens mod_weights mod_logs mod_marks mod_whence mod_by mod_leads mod_comes mod_costs mod_next r5.2)) (wc' := (mW b gm mod_thrown mod_places mod_firings mod_fired mod_logged mod_tokens mod_weights mod_logs mod_marks mod_whence mod_by mod_leads mod_comes mod_costs mod_next r5.2)) (c_X6_in l D _ _ x1 0 (r5.1 - 1) r6 hr6) ⟨(Nat.le_of_ble_eq_true rfl), (Nat.le_of_ble_eq_true rfl)⟩ rfl rfl rfl (ww _) (ww _) rfl C.2.2.2.2.2.2.1 (Nat.le_of_ble_eq_true rfl) rfl rfl (Nat.zero_le _) (Nat.zero_le _) dX6_round_10 ?_
  refine j_if_eq C h 28 (by decide) dX6_round_13 (fun c9 h => ?_) (fun c9 h => ?_)
  · exact J28 x1 x2 mod_thrown r5.2 h
  · refine j_aload_n C 0 rfl rfl dX6_round_16 ?_
    refine j_iload_n C 2 rfl rfl dX6_round_17 ?_
    obtain ⟨r7, hr7, h⟩ := Ob_of h
    refine q_X6_62 C (wc := (mW b gm mod_thrown mod_places mod_firings mod_fired mod_logged mod_tokens mod_weights mod_logs mod_marks mod_whence mod_by mod_leads mod_comes mod_costs mod_next r5.2)) (wc' := (mW b gm mod_thrown mod_places mod_firings mod_fired mod_logged mod_tokens mod_weights mod_logs mod_marks mod_whence mod_by mod_leads mod_comes mod_costs mod_next r5.2)) (c_X6_isFiring l D b gm mod_thrown mod_places mod_firings mod_fired mod_logged mod_tokens mod_weights mod_logs mod_marks mod_whence mod_by mod_leads mod_comes mod_costs mod_next r5.2 x2 r7 hr7) ⟨(Nat.le_of_ble_eq_true rfl), (Nat.le_of_ble_eq_true rfl)⟩ rfl rfl 0 rfl rfl (ww _) (ww _) rfl C.2.2.2.2.2.2.1 (Nat.le_of_ble_eq_true rfl) rfl rfl (Nat.zero_le _) (Nat.zero_le _) dX6_round_18 ?_
    refine j_if_eq C h 28 (by decide) dX6_round_21 (fun c8 h => ?_) (fun c8 h => ?_)
    · exact J28 x1 x2 mod_thrown r5.2 h
    · refine j_iconst C dX6_round_24 ?_
      refine j_goto C 29 (by decide) dX6_round_25 ?_
      exact J29 x1 x2 0 mod_thrown r5.2 h
theorem c_X6_round (l : Launch) (D : va_G) (b : Nat → Nat) (gm : Nat → ClassId) (mod_thrown : Int) (mod_places : Int) (mod_firings : Int) (mod_fired : Int) (mod_logged : Int) (mod_tokens : Nat → Int) (mod_weights : Nat → Int) (mod_logs : Nat → Int) (mod_marks : Nat → Int) (mod_whence : Nat → Int) (mod_by : Nat → Int) (mod_leads : Nat → Int) (mod_comes : Nat → Int) (mod_costs : Nat → Int) (mod_next : Nat → Int) (mod_found : Nat → Int) (x1 : Int) (x2 : Int) (res : Int × (Int) × (Nat → Int)) (h : F_X6_round x1 x2 mod_places mod_firings mod_weights mod_thrown mod_found = some res) : Kt l yX6_round cX6_round 3 (some .int) ({ frames := 4, cells := 0, slots := 0, locals := 98 } : Room) D (mT gm) [.ref (b 0), .int (vI x1), .int (vI x2)] (mW b gm mod_thrown mod_places mod_firings mod_fired mod_logged mod_tokens mod_weights mod_logs mod_marks mod_whence mod_by mod_leads mod_comes mod_costs mod_next mod_found) (mW b gm res.2.1 mod_places mod_firings mod_fired mod_logged mod_tokens mod_weights mod_logs mod_marks mod_whence mod_by mod_leads mod_comes mod_costs mod_next res.2.2) (some (.int (vI res.1))) :=
  kt_i (ty := .int) rfl rfl (by decide +kernel) (Nat.le_of_ble_eq_true rfl) (fun C RET => k_X6_round C x1 x2 res h RET)
set_option maxRecDepth 100000 in
set_option maxHeartbeats 4000000 in
theorem k_X6_keeps {b : Nat → Nat} {gm : Nat → ClassId} {mod_thrown : Int} {mod_places : Int} {mod_firings : Int} {mod_fired : Int} {mod_logged : Int} {mod_tokens : Nat → Int} {mod_weights : Nat → Int} {mod_logs : Nat → Int} {mod_marks : Nat → Int} {mod_whence : Nat → Int} {mod_by : Nat → Int} {mod_leads : Nat → Int} {mod_comes : Nat → Int} {mod_costs : Nat → Int} {mod_next : Nat → Int} {mod_found : Nat → Int} (C : JC p s m args meth c cX6_keeps 6 "MarkingHallModel" D (mT gm) A)  (res : Int × (Int) × (Nat → Int) × (Nat → Int) × (Nat → Int) × (Nat → Int) × (Nat → Int)) (h : F_X6_keeps mod_places mod_firings mod_tokens mod_weights mod_thrown mod_marks mod_whence mod_by mod_leads mod_found = some res) (RET : ∀ (pc : Nat) (lv : List (Nat × Value)), (res.1 = 0 ∨ res.1 = 1) → decode cX6_keeps pc = .ok (.ireturn, 1) → J p l e ({ frames := 4, cells := 0, slots := 0, locals := 98 } : Room) s m args below meth c D A 6 Q 0 0 (mW b gm res.2.1 mod_places mod_firings mod_fired mod_logged mod_tokens mod_weights mod_logs res.2.2.1 res.2.2.2.1 res.2.2.2.2.1 res.2.2.2.2.2.1 mod_comes mod_costs mod_next res.2.2.2.2.2.2) pc lv [.int (vI res.1)]) : J p l e ({ frames := 4, cells := 0, slots := 0, locals := 98 } : Room) s m args below meth c D A 6 Q 0 0 (mW b gm mod_thrown mod_places mod_firings mod_fired mod_logged mod_tokens mod_weights mod_logs mod_marks mod_whence mod_by mod_leads mod_comes mod_costs mod_next mod_found) 0 [(0, .ref (b 0))] [] := by
  have J89 : ∀ (n : Nat) (l1 : Int) (l2 : Int) (l3 : Int) (l4 : Int) (mod_thrown : Int) (mod_marks : Nat → Int) (mod_whence : Nat → Int) (mod_by : Nat → Int) (mod_leads : Nat → Int) (mod_found : Nat → Int), F_X6_keeps_b89 mod_places mod_firings mod_tokens mod_weights n l1 l2 l3 l4 mod_thrown mod_marks mod_whence mod_by mod_leads mod_found = some res → J p l e ({ frames := 4, cells := 0, slots := 0, locals := 98 } : Room) s m args below meth c D A 6 Q 0 0 (mW b gm mod_thrown mod_places mod_firings mod_fired mod_logged mod_tokens mod_weights mod_logs mod_marks mod_whence mod_by mod_leads mod_comes mod_costs mod_next mod_found) 89 [(0, .ref (b 0)), (1, .int (vI l1)), (2, .int (vI l2)), (3, .int (vI l3)), (4, .int (vI l4))] [] := by
    intro n
    induction n with
    | zero => intro l1 l2 l3 l4 mod_thrown mod_marks mod_whence mod_by mod_leads mod_found h; exact no_h h
    | succ n ih89 =>
      intro l1 l2 l3 l4 mod_thrown mod_marks mod_whence mod_by mod_leads mod_found h
      replace h : F_X6_keeps_b89_body mod_places mod_firings mod_tokens mod_weights (F_X6_keeps_b89 mod_places mod_firings mod_tokens mod_weights n) l1 l2 l3 l4 mod_thrown mod_marks mod_whence mod_by mod_leads mod_found = some res := h
      generalize F_X6_keeps_b89 mod_places mod_firings mod_tokens mod_weights n = ag89 at ih89 h
      have J134 : ∀ (l1 : Int) (l2 : Int) (l4 : Int) (s0 : Int) (mod_thrown : Int) (mod_marks : Nat → Int) (mod_whence : Nat → Int) (mod_by : Nat → Int) (mod_leads : Nat → Int) (mod_found : Nat → Int), F_X6_keeps_b134 mod_places mod_firings mod_tokens mod_weights ag89 l1 l2 l4 s0 mod_thrown mod_marks mod_whence mod_by mod_leads mod_found = some res → J p l e ({ frames := 4, cells := 0, slots := 0, locals := 98 } : Room) s m args below meth c D A 6 Q 0 0 (mW b gm mod_thrown mod_places mod_firings mod_fired mod_logged mod_tokens mod_weights mod_logs mod_marks mod_whence mod_by mod_leads mod_comes mod_costs mod_next mod_found) 134 [(0, .ref (b 0)), (1, .int (vI l1)), (2, .int (vI l2)), (4, .int (vI l4))] [.int (vI s0)] := by
        intro l1 l2 l4 s0 mod_thrown mod_marks mod_whence mod_by mod_leads mod_found h
        unfold F_X6_keeps_b134 at h
        refine j_istore_n C [(3, .int (vI s0)), (0, .ref (b 0)), (1, .int (vI l1)), (2, .int (vI l2)), (4, .int (vI l4))] rfl rfl (by decide) dX6_keeps_134 ?_
        refine j_iinc C 4 rfl (fun v => [(4, .int (vI v)), (3, .int (vI s0)), (0, .ref (b 0)), (1, .int (vI l1)), (2, .int (vI l2))]) (fun _ => rfl) (by decide) h dX6_keeps_135 (fun v1 h => ?_)
        refine j_goto C 89 (by decide) dX6_keeps_138 ?_
        refine j_lv [2, 3, 4, 1, 0] rfl ?_
        exact ih89 l1 l2 s0 v1 mod_thrown mod_marks mod_whence mod_by mod_leads mod_found h
      have J133 : ∀ (l1 : Int) (l2 : Int) (l4 : Int) (mod_thrown : Int) (mod_marks : Nat → Int) (mod_whence : Nat → Int) (mod_by : Nat → Int) (mod_leads : Nat → Int) (mod_found : Nat → Int), F_X6_keeps_b133 mod_places mod_firings mod_tokens mod_weights ag89 l1 l2 l4 mod_thrown mod_marks mod_whence mod_by mod_leads mod_found = some res → J p l e ({ frames := 4, cells := 0, slots := 0, locals := 98 } : Room) s m args below meth c D A 6 Q 0 0 (mW b gm mod_thrown mod_places mod_firings mod_fired mod_logged mod_tokens mod_weights mod_logs mod_marks mod_whence mod_by mod_leads mod_comes mod_costs mod_next mod_found) 133 [(0, .ref (b 0)), (1, .int (vI l1)), (2, .int (vI l2)), (4, .int (vI l4))] [] := by
        intro l1 l2 l4 mod_thrown mod_marks mod_whence mod_by mod_leads mod_found h
        unfold F_X6_keeps_b133 at h
        refine j_iconst C dX6_keeps_133 ?_
        exact J134 l1 l2 l4 0 mod_thrown mod_marks mod_whence mod_by mod_leads mod_found h
      have J129 : ∀ (l1 : Int) (l2 : Int) (l4 : Int) (mod_thrown : Int) (mod_marks : Nat → Int) (mod_whence : Nat → Int) (mod_by : Nat → Int) (mod_leads : Nat → Int) (mod_found : Nat → Int), F_X6_keeps_b129 mod_places mod_firings mod_tokens mod_weights ag89 l1 l2 l4 mod_thrown mod_marks mod_whence mod_by mod_leads mod_found = some res → J p l e ({ frames := 4, cells := 0, slots := 0, locals := 98 } : Room) s m args below meth c D A 6 Q 0 0 (mW b gm mod_thrown mod_places mod_firings mod_fired mod_logged mod_tokens mod_weights mod_logs mod_marks mod_whence mod_by mod_leads mod_comes mod_costs mod_next mod_found) 129 [(0, .ref (b 0)), (1, .int (vI l1)), (2, .int (vI l2)), (4, .int (vI l4))] [] := by
        intro l1 l2 l4 mod_thrown mod_marks mod_whence mod_by mod_leads mod_found h
        unfold F_X6_keeps_b129 at h
        refine j_iconst C dX6_keeps_129 ?_
        refine j_goto C 134 (by decide) dX6_keeps_130 ?_
        exact J134 l1 l2 l4 1 mod_thrown mod_marks mod_whence mod_by mod_leads mod_found h
      unfold F_X6_keeps_b89_body at h
      refine j_iload C 4 rfl dX6_keeps_89 ?_
      refine j_aload_n C 0 rfl rfl dX6_keeps_91 ?_
      refine g_X6_48 C (v := .int (vI mod_places)) 0 rfl rfl dX6_keeps_92 ?_
      refine j_icmp_ge C h 141 (by decide) dX6_keeps_95 (fun c8 h => ?_) (fun c8 h => ?_)
      · refine j_iload_n C 3 rfl rfl dX6_keeps_141 ?_
        obtain ⟨hz2, h⟩ := G_of h
        cases h
        exact RET _ _ hz2 dX6_keeps_142
      · refine j_aload_n C 0 rfl rfl dX6_keeps_98 ?_
        refine j_iload C 4 rfl dX6_keeps_99 ?_
        refine j_iload_n C 1 rfl rfl dX6_keeps_101 ?_
        obtain ⟨r3, hr3, h⟩ := Ob_of h
        refine q_X6_139 C (wc := (mW b gm mod_thrown mod_places mod_firings mod_fired mod_logged mod_tokens mod_weights mod_logs mod_marks mod_whence mod_by mod_leads mod_comes mod_costs mod_next mod_found)) (wc' := (mW b gm mod_thrown mod_places mod_firings mod_fired mod_logged mod_tokens mod_weights mod_logs r3.2 mod_whence mod_by mod_leads mod_comes mod_costs mod_next mod_found)) (c_X6_boundOf l D b gm mod_thrown mod_places mod_firings mod_fired mod_logged mod_tokens mod_weights mod_logs mod_marks mod_whence mod_by mod_leads mod_comes mod_costs mod_next mod_found l4 l1 r3 hr3) ⟨(Nat.le_of_ble_eq_true rfl), (Nat.le_of_ble_eq_true rfl)⟩ rfl rfl 0 rfl rfl (ww _) (ww _) mW_ha C.2.2.2.2.2.2.1 (Nat.le_of_ble_eq_true rfl) rfl rfl (Nat.zero_le _) (Nat.zero_le _) dX6_keeps_102 ?_
        refine j_istore C [(5, .int (vI r3.1)), (0, .ref (b 0)), (1, .int (vI l1)), (2, .int (vI l2)), (3, .int (vI l3)), (4, .int (vI l4))] rfl (by decide) dX6_keeps_105 ?_
        refine j_iload_n C 4 rfl rfl dX6_keeps_107 ?_
        refine j_if_eq C h 133 (by decide) dX6_keeps_108 (fun c7 h => ?_) (fun c7 h => ?_)
        · refine j_lv [1, 2, 3, 5] rfl ?_
          exact J133 l1 l2 l4 mod_thrown r3.2 mod_whence mod_by mod_leads mod_found h
        · refine j_iload C 0 rfl dX6_keeps_111 ?_
          refine j_iconst C dX6_keeps_113 ?_
          refine j_icmp_eq C h 129 (by decide) dX6_keeps_114 (fun c6 h => ?_) (fun c6 h => ?_)
          · refine j_lv [1, 2, 3, 5] rfl ?_
            exact J129 l1 l2 l4 mod_thrown r3.2 mod_whence mod_by mod_leads mod_found h
          · refine j_aload_n C 1 rfl rfl dX6_keeps_117 ?_
            refine j_iload C 5 rfl dX6_keeps_118 ?_
            refine j_iload_n C 3 rfl rfl dX6_keeps_120 ?_
            obtain ⟨r4, hr4, h⟩ := Ob_of h
            refine q_X6_106 C (wc := (mW b gm mod_thrown mod_places mod_firings mod_fired mod_logged mod_tokens mod_weights mod_logs r3.2 mod_whence mod_by mod_leads mod_comes mod_costs mod_next mod_found)) (wc' := (mW b gm mod_thrown mod_places mod_firings mod_fired mod_logged mod_tokens mod_weights mod_logs r3.2 mod_whence mod_by mod_leads mod_comes mod_costs mod_next mod_found)) (c_X6_mostOf l D b gm mod_thrown mod_places mod_firings mod_fired mod_logged mod_tokens mod_weights mod_logs r3.2 mod_whence mod_by mod_leads mod_comes mod_costs mod_next mod_found l4 l2 r4 hr4) ⟨(Nat.le_of_ble_eq_true rfl), (Nat.le_of_ble_eq_true rfl)⟩ rfl rfl 0 rfl rfl (ww _) (ww _) rfl C.2.2.2.2.2.2.1 (Nat.le_of_ble_eq_true rfl) rfl rfl (Nat.zero_le _) (Nat.zero_le _) dX6_keeps_121 ?_
            refine j_iload C 0 rfl dX6_keeps_124 ?_
            refine j_icmp_gt C h 133 (by decide) dX6_keeps_126 (fun c5 h => ?_) (fun c5 h => ?_)
            · refine j_lv [1, 2, 3, 5] rfl ?_
              exact J133 l1 l2 l4 mod_thrown r3.2 mod_whence mod_by mod_leads mod_found h
            · refine j_lv [1, 2, 3, 5] rfl ?_
              exact J129 l1 l2 l4 mod_thrown r3.2 mod_whence mod_by mod_leads mod_found h
  have J21 : ∀ (n : Nat) (l1 : Int) (l2 : Int) (l3 : Int) (l4 : Int) (mod_thrown : Int) (mod_marks : Nat → Int) (mod_whence : Nat → Int) (mod_by : Nat → Int) (mod_leads : Nat → Int) (mod_found : Nat → Int), F_X6_keeps_b21 mod_places mod_firings mod_tokens mod_weights n l1 l2 l3 l4 mod_thrown mod_marks mod_whence mod_by mod_leads mod_found = some res → J p l e ({ frames := 4, cells := 0, slots := 0, locals := 98 } : Room) s m args below meth c D A 6 Q 0 0 (mW b gm mod_thrown mod_places mod_firings mod_fired mod_logged mod_tokens mod_weights mod_logs mod_marks mod_whence mod_by mod_leads mod_comes mod_costs mod_next mod_found) 21 [(0, .ref (b 0)), (1, .int (vI l1)), (2, .int (vI l2)), (3, .int (vI l3)), (4, .int (vI l4))] [] := by
    intro n
    induction n with
    | zero => intro l1 l2 l3 l4 mod_thrown mod_marks mod_whence mod_by mod_leads mod_found h; exact no_h h
    | succ n ih21 =>
      intro l1 l2 l3 l4 mod_thrown mod_marks mod_whence mod_by mod_leads mod_found h
      replace h : F_X6_keeps_b21_body mod_places mod_firings mod_tokens mod_weights (F_X6_keeps_b21 mod_places mod_firings mod_tokens mod_weights n) l1 l2 l3 l4 mod_thrown mod_marks mod_whence mod_by mod_leads mod_found = some res := h
      generalize F_X6_keeps_b21 mod_places mod_firings mod_tokens mod_weights n = ag21 at ih21 h
      have J30 : ∀ (n : Nat) (l1 : Int) (l2 : Int) (l3 : Int) (l4 : Int) (l5 : Int) (mod_thrown : Int) (mod_marks : Nat → Int) (mod_whence : Nat → Int) (mod_by : Nat → Int) (mod_leads : Nat → Int) (mod_found : Nat → Int), F_X6_keeps_b30 mod_places mod_firings mod_tokens mod_weights ag21 n l1 l2 l3 l4 l5 mod_thrown mod_marks mod_whence mod_by mod_leads mod_found = some res → J p l e ({ frames := 4, cells := 0, slots := 0, locals := 98 } : Room) s m args below meth c D A 6 Q 0 0 (mW b gm mod_thrown mod_places mod_firings mod_fired mod_logged mod_tokens mod_weights mod_logs mod_marks mod_whence mod_by mod_leads mod_comes mod_costs mod_next mod_found) 30 [(0, .ref (b 0)), (1, .int (vI l1)), (2, .int (vI l2)), (3, .int (vI l3)), (4, .int (vI l4)), (5, .int (vI l5))] [] := by
        intro n
        induction n with
        | zero => intro l1 l2 l3 l4 l5 mod_thrown mod_marks mod_whence mod_by mod_leads mod_found h; exact no_h h
        | succ n ih30 =>
          intro l1 l2 l3 l4 l5 mod_thrown mod_marks mod_whence mod_by mod_leads mod_found h
          replace h : F_X6_keeps_b30_body mod_places mod_firings mod_tokens mod_weights ag21 (F_X6_keeps_b30 mod_places mod_firings mod_tokens mod_weights ag21 n) l1 l2 l3 l4 l5 mod_thrown mod_marks mod_whence mod_by mod_leads mod_found = some res := h
          generalize F_X6_keeps_b30 mod_places mod_firings mod_tokens mod_weights ag21 n = ag30 at ih30 h
          have J73 : ∀ (l1 : Int) (l2 : Int) (l4 : Int) (l5 : Int) (s0 : Int) (mod_thrown : Int) (mod_marks : Nat → Int) (mod_whence : Nat → Int) (mod_by : Nat → Int) (mod_leads : Nat → Int) (mod_found : Nat → Int), F_X6_keeps_b73 mod_places mod_firings mod_tokens mod_weights ag21 ag30 l1 l2 l4 l5 s0 mod_thrown mod_marks mod_whence mod_by mod_leads mod_found = some res → J p l e ({ frames := 4, cells := 0, slots := 0, locals := 98 } : Room) s m args below meth c D A 6 Q 0 0 (mW b gm mod_thrown mod_places mod_firings mod_fired mod_logged mod_tokens mod_weights mod_logs mod_marks mod_whence mod_by mod_leads mod_comes mod_costs mod_next mod_found) 73 [(0, .ref (b 0)), (1, .int (vI l1)), (2, .int (vI l2)), (4, .int (vI l4)), (5, .int (vI l5))] [.int (vI s0)] := by
            intro l1 l2 l4 l5 s0 mod_thrown mod_marks mod_whence mod_by mod_leads mod_found h
            unfold F_X6_keeps_b73 at h
            refine j_istore_n C [(3, .int (vI s0)), (0, .ref (b 0)), (1, .int (vI l1)), (2, .int (vI l2)), (4, .int (vI l4)), (5, .int (vI l5))] rfl rfl (by decide) dX6_keeps_73 ?_
            refine j_iinc C 5 rfl (fun v => [(5, .int (vI v)), (3, .int (vI s0)), (0, .ref (b 0)), (1, .int (vI l1)), (2, .int (vI l2)), (4, .int (vI l4))]) (fun _ => rfl) (by decide) h dX6_keeps_74 (fun v9 h => ?_)
            refine j_goto C 30 (by decide) dX6_keeps_77 ?_
            refine j_lv [2, 3, 4, 1, 5, 0] rfl ?_
            exact ih30 l1 l2 s0 l4 v9 mod_thrown mod_marks mod_whence mod_by mod_leads mod_found h
          have J72 : ∀ (l1 : Int) (l2 : Int) (l4 : Int) (l5 : Int) (mod_thrown : Int) (mod_marks : Nat → Int) (mod_whence : Nat → Int) (mod_by : Nat → Int) (mod_leads : Nat → Int) (mod_found : Nat → Int), F_X6_keeps_b72 mod_places mod_firings mod_tokens mod_weights ag21 ag30 l1 l2 l4 l5 mod_thrown mod_marks mod_whence mod_by mod_leads mod_found = some res → J p l e ({ frames := 4, cells := 0, slots := 0, locals := 98 } : Room) s m args below meth c D A 6 Q 0 0 (mW b gm mod_thrown mod_places mod_firings mod_fired mod_logged mod_tokens mod_weights mod_logs mod_marks mod_whence mod_by mod_leads mod_comes mod_costs mod_next mod_found) 72 [(0, .ref (b 0)), (1, .int (vI l1)), (2, .int (vI l2)), (4, .int (vI l4)), (5, .int (vI l5))] [] := by
            intro l1 l2 l4 l5 mod_thrown mod_marks mod_whence mod_by mod_leads mod_found h
            unfold F_X6_keeps_b72 at h
            refine j_iconst C dX6_keeps_72 ?_
            exact J73 l1 l2 l4 l5 0 mod_thrown mod_marks mod_whence mod_by mod_leads mod_found h
          unfold F_X6_keeps_b30_body at h
          refine j_iload C 5 rfl dX6_keeps_30 ?_
          refine j_iload_n C 1 rfl rfl dX6_keeps_32 ?_
          refine j_icmp_ge C h 80 (by decide) dX6_keeps_33 (fun c17 h => ?_) (fun c17 h => ?_)
          · refine j_iinc C 4 rfl (fun v => [(4, .int (vI v)), (0, .ref (b 0)), (1, .int (vI l1)), (2, .int (vI l2)), (3, .int (vI l3)), (5, .int (vI l5))]) (fun _ => rfl) (by decide) h dX6_keeps_80 (fun v10 h => ?_)
            refine j_goto C 21 (by decide) dX6_keeps_83 ?_
            refine j_lv [1, 2, 3, 4, 0] rfl ?_
            exact ih21 l1 l2 l3 v10 mod_thrown mod_marks mod_whence mod_by mod_leads mod_found h
          · refine j_iload_n C 3 rfl rfl dX6_keeps_36 ?_
            refine j_if_eq C h 72 (by decide) dX6_keeps_37 (fun c16 h => ?_) (fun c16 h => ?_)
            · refine j_lv [0, 1, 2, 4, 5] rfl ?_
              exact J72 l1 l2 l4 l5 mod_thrown mod_marks mod_whence mod_by mod_leads mod_found h
            · refine j_aload_n C 0 rfl rfl dX6_keeps_40 ?_
              refine j_aload_n C 0 rfl rfl dX6_keeps_41 ?_
              refine g_X6_41 C (v := .ref (b 11)) 0 rfl rfl dX6_keeps_42 ?_
              refine j_iload C 5 rfl dX6_keeps_45 ?_
              refine j_iald C 11 10 rfl rfl (Nat.le_of_ble_eq_true rfl) h dX6_keeps_47 (fun v11 h => ?_)
              refine j_iload C 4 rfl dX6_keeps_48 ?_
              obtain ⟨r12, hr12, h⟩ := Ob_of h
              refine q_X6_136 C (wc := (mW b gm mod_thrown mod_places mod_firings mod_fired mod_logged mod_tokens mod_weights mod_logs mod_marks mod_whence mod_by mod_leads mod_comes mod_costs mod_next mod_found)) (wc' := (mW b gm mod_thrown mod_places mod_firings mod_fired mod_logged mod_tokens mod_weights mod_logs mod_marks mod_whence mod_by mod_leads mod_comes mod_costs mod_next mod_found)) (c_X6_sumBy l D b gm mod_thrown mod_places mod_firings mod_fired mod_logged mod_tokens mod_weights mod_logs mod_marks mod_whence mod_by mod_leads mod_comes mod_costs mod_next mod_found v11 l4 r12 hr12) ⟨(Nat.le_of_ble_eq_true rfl), (Nat.le_of_ble_eq_true rfl)⟩ rfl rfl 0 rfl rfl (ww _) (ww _) rfl C.2.2.2.2.2.2.1 (Nat.le_of_ble_eq_true rfl) rfl rfl (Nat.zero_le _) (Nat.zero_le _) dX6_keeps_50 ?_
              refine j_aload_n C 0 rfl rfl dX6_keeps_53 ?_
              refine j_aload_n C 0 rfl rfl dX6_keeps_54 ?_
              refine g_X6_41 C (v := .ref (b 11)) 0 rfl rfl dX6_keeps_55 ?_
              refine j_iload C 5 rfl dX6_keeps_58 ?_
              refine j_iald C 11 10 rfl rfl (Nat.le_of_ble_eq_true rfl) h dX6_keeps_60 (fun v13 h => ?_)
              refine j_iconst C dX6_keeps_61 ?_
              obtain ⟨r14, hr14, h⟩ := Ob_of h
              refine q_X6_136 C (wc := (mW b gm mod_thrown mod_places mod_firings mod_fired mod_logged mod_tokens mod_weights mod_logs mod_marks mod_whence mod_by mod_leads mod_comes mod_costs mod_next mod_found)) (wc' := (mW b gm mod_thrown mod_places mod_firings mod_fired mod_logged mod_tokens mod_weights mod_logs mod_marks mod_whence mod_by mod_leads mod_comes mod_costs mod_next mod_found)) (c_X6_sumBy l D b gm mod_thrown mod_places mod_firings mod_fired mod_logged mod_tokens mod_weights mod_logs mod_marks mod_whence mod_by mod_leads mod_comes mod_costs mod_next mod_found v13 0 r14 hr14) ⟨(Nat.le_of_ble_eq_true rfl), (Nat.le_of_ble_eq_true rfl)⟩ rfl rfl 0 rfl rfl (ww _) (ww _) rfl C.2.2.2.2.2.2.1 (Nat.le_of_ble_eq_true rfl) rfl rfl (Nat.zero_le _) (Nat.zero_le _) dX6_keeps_62 ?_
              refine j_icmp_ne C h 72 (by decide) dX6_keeps_65 (fun c15 h => ?_) (fun c15 h => ?_)
              · refine j_lv [0, 1, 2, 4, 5] rfl ?_
                exact J72 l1 l2 l4 l5 mod_thrown mod_marks mod_whence mod_by mod_leads mod_found h
              · refine j_iconst C dX6_keeps_68 ?_
                refine j_goto C 73 (by decide) dX6_keeps_69 ?_
                refine j_lv [0, 1, 2, 4, 5] rfl ?_
                exact J73 l1 l2 l4 l5 1 mod_thrown mod_marks mod_whence mod_by mod_leads mod_found h
      unfold F_X6_keeps_b21_body at h
      refine j_iload C 4 rfl dX6_keeps_21 ?_
      refine j_iload_n C 2 rfl rfl dX6_keeps_23 ?_
      refine j_icmp_ge C h 86 (by decide) dX6_keeps_24 (fun c18 h => ?_) (fun c18 h => ?_)
      · refine j_iconst C dX6_keeps_86 ?_
        refine j_istore C [(4, .int (vI 0)), (0, .ref (b 0)), (1, .int (vI l1)), (2, .int (vI l2)), (3, .int (vI l3))] rfl (by decide) dX6_keeps_87 ?_
        refine j_lv [1, 2, 3, 4, 0] rfl ?_
        exact J89 NN l1 l2 l3 0 mod_thrown mod_marks mod_whence mod_by mod_leads mod_found h
      · refine j_iconst C dX6_keeps_27 ?_
        refine j_istore C [(5, .int (vI 0)), (0, .ref (b 0)), (1, .int (vI l1)), (2, .int (vI l2)), (3, .int (vI l3)), (4, .int (vI l4))] rfl (by decide) dX6_keeps_28 ?_
        refine j_lv [1, 2, 3, 4, 5, 0] rfl ?_
        exact J30 NN l1 l2 l3 l4 0 mod_thrown mod_marks mod_whence mod_by mod_leads mod_found h
  unfold F_X6_keeps at h
  refine j_aload_n C 0 rfl rfl dX6_keeps_0 ?_
  refine j_iconst C dX6_keeps_1 ?_
  refine p_X6_44 C 0 rfl (Nat.le_of_ble_eq_true rfl) (mW b gm 0 mod_places mod_firings mod_fired mod_logged mod_tokens mod_weights mod_logs mod_marks mod_whence mod_by mod_leads mod_comes mod_costs mod_next mod_found) rfl dX6_keeps_2 ?_
  refine j_aload_n C 0 rfl rfl dX6_keeps_5 ?_
  refine j_iconst C dX6_keeps_6 ?_
  obtain ⟨r19, hr19, h⟩ := Ob_of h
  refine q_X6_132 C (wc := (mW b gm 0 mod_places mod_firings mod_fired mod_logged mod_tokens mod_weights mod_logs mod_marks mod_whence mod_by mod_leads mod_comes mod_costs mod_next mod_found)) (wc' := (mW b gm 0 mod_places mod_firings mod_fired mod_logged mod_tokens mod_weights mod_logs mod_marks mod_whence mod_by mod_leads mod_comes mod_costs mod_next r19.2)) (c_X6_findLeast l D b gm 0 mod_places mod_firings mod_fired mod_logged mod_tokens mod_weights mod_logs mod_marks mod_whence mod_by mod_leads mod_comes mod_costs mod_next mod_found 1 r19 hr19) ⟨(Nat.le_of_ble_eq_true rfl), (Nat.le_of_ble_eq_true rfl)⟩ rfl rfl 0 rfl rfl (ww _) (ww _) mW_ha C.2.2.2.2.2.2.1 (Nat.le_of_ble_eq_true rfl) rfl rfl (Nat.zero_le _) (Nat.zero_le _) dX6_keeps_7 ?_
  refine j_istore_n C [(1, .int (vI r19.1)), (0, .ref (b 0))] rfl rfl (by decide) dX6_keeps_10 ?_
  refine j_aload_n C 1 rfl rfl dX6_keeps_11 ?_
  obtain ⟨r20, hr20, h⟩ := Ob_of h
  refine q_X6_91 C (wc := (mW b gm 0 mod_places mod_firings mod_fired mod_logged mod_tokens mod_weights mod_logs mod_marks mod_whence mod_by mod_leads mod_comes mod_costs mod_next r19.2)) (wc' := (mW b gm 0 mod_places mod_firings mod_fired mod_logged mod_tokens mod_weights mod_logs r20.2.1 r20.2.2.1 r20.2.2.2.1 r20.2.2.2.2 mod_comes mod_costs mod_next r19.2)) (c_X6_findAll l D b gm 0 mod_places mod_firings mod_fired mod_logged mod_tokens mod_weights mod_logs mod_marks mod_whence mod_by mod_leads mod_comes mod_costs mod_next r19.2 r20 hr20) ⟨(Nat.le_of_ble_eq_true rfl), (Nat.le_of_ble_eq_true rfl)⟩ rfl rfl 0 rfl rfl (ww _) (ww _) mW_ha C.2.2.2.2.2.2.1 (Nat.le_of_ble_eq_true rfl) rfl rfl (Nat.zero_le _) (Nat.zero_le _) dX6_keeps_12 ?_
  refine j_istore_n C [(2, .int (vI r20.1)), (1, .int (vI r19.1)), (0, .ref (b 0))] rfl rfl (by decide) dX6_keeps_15 ?_
  refine j_iconst C dX6_keeps_16 ?_
  refine j_istore_n C [(3, .int (vI 1)), (2, .int (vI r20.1)), (1, .int (vI r19.1)), (0, .ref (b 0))] rfl rfl (by decide) dX6_keeps_17 ?_
  refine j_iconst C dX6_keeps_18 ?_
  refine j_istore C [(4, .int (vI 1)), (3, .int (vI 1)), (2, .int (vI r20.1)), (1, .int (vI r19.1)), (0, .ref (b 0))] rfl (by decide) dX6_keeps_19 ?_
  refine j_lv [4, 3, 2, 1, 0] rfl ?_
  exact J21 NN r19.1 r20.1 1 1 0 r20.2.1 r20.2.2.1 r20.2.2.2.1 r20.2.2.2.2 r19.2 h
theorem c_X6_keeps (l : Launch) (D : va_G) (b : Nat → Nat) (gm : Nat → ClassId) (mod_thrown : Int) (mod_places : Int) (mod_firings : Int) (mod_fired : Int) (mod_logged : Int) (mod_tokens : Nat → Int) (mod_weights : Nat → Int) (mod_logs : Nat → Int) (mod_marks : Nat → Int) (mod_whence : Nat → Int) (mod_by : Nat → Int) (mod_leads : Nat → Int) (mod_comes : Nat → Int) (mod_costs : Nat → Int) (mod_next : Nat → Int) (mod_found : Nat → Int)  (res : Int × (Int) × (Nat → Int) × (Nat → Int) × (Nat → Int) × (Nat → Int) × (Nat → Int)) (h : F_X6_keeps mod_places mod_firings mod_tokens mod_weights mod_thrown mod_marks mod_whence mod_by mod_leads mod_found = some res) : Kt l yX6_keeps cX6_keeps 6 (some .boolean) ({ frames := 4, cells := 0, slots := 0, locals := 98 } : Room) D (mT gm) [.ref (b 0)] (mW b gm mod_thrown mod_places mod_firings mod_fired mod_logged mod_tokens mod_weights mod_logs mod_marks mod_whence mod_by mod_leads mod_comes mod_costs mod_next mod_found) (mW b gm res.2.1 mod_places mod_firings mod_fired mod_logged mod_tokens mod_weights mod_logs res.2.2.1 res.2.2.2.1 res.2.2.2.2.1 res.2.2.2.2.2.1 mod_comes mod_costs mod_next res.2.2.2.2.2.2) (some (.int (vI res.1))) :=
  kt_z rfl (by decide +kernel) (Nat.le_of_ble_eq_true rfl) (fun C RET => k_X6_keeps C res h RET)
set_option maxRecDepth 100000 in
set_option maxHeartbeats 4000000 in
theorem k_X6_touches {b : Nat → Nat} {gm : Nat → ClassId} {mod_thrown : Int} {mod_places : Int} {mod_firings : Int} {mod_fired : Int} {mod_logged : Int} {mod_tokens : Nat → Int} {mod_weights : Nat → Int} {mod_logs : Nat → Int} {mod_marks : Nat → Int} {mod_whence : Nat → Int} {mod_by : Nat → Int} {mod_leads : Nat → Int} {mod_comes : Nat → Int} {mod_costs : Nat → Int} {mod_next : Nat → Int} {mod_found : Nat → Int} (C : JC p s m args meth c cX6_touches 6 "MarkingHallModel" D (mT gm) A) (x1 : Int) (x2 : Int) (x3 : Int) (res : Int) (h : F_X6_touches x1 x2 x3 mod_places mod_weights = some res) (RET : ∀ (pc : Nat) (lv : List (Nat × Value)), (res = 0 ∨ res = 1) → decode cX6_touches pc = .ok (.ireturn, 1) → J p l e ({ frames := 1, cells := 0, slots := 0, locals := 23 } : Room) s m args below meth c D A 6 Q 0 0 (mW b gm mod_thrown mod_places mod_firings mod_fired mod_logged mod_tokens mod_weights mod_logs mod_marks mod_whence mod_by mod_leads mod_comes mod_costs mod_next mod_found) pc lv [.int (vI res)]) : J p l e ({ frames := 1, cells := 0, slots := 0, locals := 23 } : Room) s m args below meth c D A 6 Q 0 0 (mW b gm mod_thrown mod_places mod_firings mod_fired mod_logged mod_tokens mod_weights mod_logs mod_marks mod_whence mod_by mod_leads mod_comes mod_costs mod_next mod_found) 0 [(0, .ref (b 0)), (1, .int (vI x1)), (2, .int (vI x2)), (3, .int (vI x3))] [] := by
  have J6 : ∀ (n : Nat) (l1 : Int) (l2 : Int) (l3 : Int) (l4 : Int) (l5 : Int), F_X6_touches_b6 mod_places mod_weights n l1 l2 l3 l4 l5 = some res → J p l e ({ frames := 1, cells := 0, slots := 0, locals := 23 } : Room) s m args below meth c D A 6 Q 0 0 (mW b gm mod_thrown mod_places mod_firings mod_fired mod_logged mod_tokens mod_weights mod_logs mod_marks mod_whence mod_by mod_leads mod_comes mod_costs mod_next mod_found) 6 [(0, .ref (b 0)), (1, .int (vI l1)), (2, .int (vI l2)), (3, .int (vI l3)), (4, .int (vI l4)), (5, .int (vI l5))] [] := by
    intro n
    induction n with
    | zero => intro l1 l2 l3 l4 l5 h; exact no_h h
    | succ n ih6 =>
      intro l1 l2 l3 l4 l5 h
      replace h : F_X6_touches_b6_body mod_places mod_weights (F_X6_touches_b6 mod_places mod_weights n) l1 l2 l3 l4 l5 = some res := h
      generalize F_X6_touches_b6 mod_places mod_weights n = ag6 at ih6 h
      have J46 : ∀ (l1 : Int) (l2 : Int) (l3 : Int) (l5 : Int) (s0 : Int), F_X6_touches_b46 mod_places mod_weights ag6 l1 l2 l3 l5 s0 = some res → J p l e ({ frames := 1, cells := 0, slots := 0, locals := 23 } : Room) s m args below meth c D A 6 Q 0 0 (mW b gm mod_thrown mod_places mod_firings mod_fired mod_logged mod_tokens mod_weights mod_logs mod_marks mod_whence mod_by mod_leads mod_comes mod_costs mod_next mod_found) 46 [(0, .ref (b 0)), (1, .int (vI l1)), (2, .int (vI l2)), (3, .int (vI l3)), (5, .int (vI l5))] [.int (vI s0)] := by
        intro l1 l2 l3 l5 s0 h
        unfold F_X6_touches_b46 at h
        refine j_istore C [(4, .int (vI s0)), (0, .ref (b 0)), (1, .int (vI l1)), (2, .int (vI l2)), (3, .int (vI l3)), (5, .int (vI l5))] rfl (by decide) dX6_touches_46 ?_
        refine j_iinc C 5 rfl (fun v => [(5, .int (vI v)), (4, .int (vI s0)), (0, .ref (b 0)), (1, .int (vI l1)), (2, .int (vI l2)), (3, .int (vI l3))]) (fun _ => rfl) (by decide) h dX6_touches_48 (fun v1 h => ?_)
        refine j_goto C 6 (by decide) dX6_touches_51 ?_
        refine j_lv [2, 3, 4, 5, 1, 0] rfl ?_
        exact ih6 l1 l2 l3 s0 v1 h
      have J45 : ∀ (l1 : Int) (l2 : Int) (l3 : Int) (l5 : Int), F_X6_touches_b45 mod_places mod_weights ag6 l1 l2 l3 l5 = some res → J p l e ({ frames := 1, cells := 0, slots := 0, locals := 23 } : Room) s m args below meth c D A 6 Q 0 0 (mW b gm mod_thrown mod_places mod_firings mod_fired mod_logged mod_tokens mod_weights mod_logs mod_marks mod_whence mod_by mod_leads mod_comes mod_costs mod_next mod_found) 45 [(0, .ref (b 0)), (1, .int (vI l1)), (2, .int (vI l2)), (3, .int (vI l3)), (5, .int (vI l5))] [] := by
        intro l1 l2 l3 l5 h
        unfold F_X6_touches_b45 at h
        refine j_iconst C dX6_touches_45 ?_
        exact J46 l1 l2 l3 l5 0 h
      have J41 : ∀ (l1 : Int) (l2 : Int) (l3 : Int) (l5 : Int), F_X6_touches_b41 mod_places mod_weights ag6 l1 l2 l3 l5 = some res → J p l e ({ frames := 1, cells := 0, slots := 0, locals := 23 } : Room) s m args below meth c D A 6 Q 0 0 (mW b gm mod_thrown mod_places mod_firings mod_fired mod_logged mod_tokens mod_weights mod_logs mod_marks mod_whence mod_by mod_leads mod_comes mod_costs mod_next mod_found) 41 [(0, .ref (b 0)), (1, .int (vI l1)), (2, .int (vI l2)), (3, .int (vI l3)), (5, .int (vI l5))] [] := by
        intro l1 l2 l3 l5 h
        unfold F_X6_touches_b41 at h
        refine j_iconst C dX6_touches_41 ?_
        refine j_goto C 46 (by decide) dX6_touches_42 ?_
        exact J46 l1 l2 l3 l5 1 h
      unfold F_X6_touches_b6_body at h
      refine j_iload C 5 rfl dX6_touches_6 ?_
      refine j_aload_n C 0 rfl rfl dX6_touches_8 ?_
      refine g_X6_48 C (v := .int (vI mod_places)) 0 rfl rfl dX6_touches_9 ?_
      refine j_icmp_ge C h 54 (by decide) dX6_touches_12 (fun c8 h => ?_) (fun c8 h => ?_)
      · refine j_iload C 4 rfl dX6_touches_54 ?_
        obtain ⟨hz2, h⟩ := G_of h
        cases h
        exact RET _ _ hz2 dX6_touches_56
      · refine j_iload C 4 rfl dX6_touches_15 ?_
        refine j_if_ne C h 41 (by decide) dX6_touches_17 (fun c7 h => ?_) (fun c7 h => ?_)
        · refine j_lv [0, 1, 2, 3, 5] rfl ?_
          exact J41 l1 l2 l3 l5 h
        · refine j_iload_n C 3 rfl rfl dX6_touches_20 ?_
          refine j_iload C 5 rfl dX6_touches_21 ?_
          refine j_ishr C dX6_touches_23 ?_
          refine j_iconst C dX6_touches_24 ?_
          refine j_iand C dX6_touches_25 ?_
          refine j_iconst C dX6_touches_26 ?_
          refine j_nm2 h (fun v3 h => ?_)
          refine j_icmp_ne C h 45 (by decide) dX6_touches_27 (fun c6 h => ?_) (fun c6 h => ?_)
          · refine j_lv [0, 1, 2, 3, 5] rfl ?_
            exact J45 l1 l2 l3 l5 h
          · refine j_aload_n C 0 rfl rfl dX6_touches_30 ?_
            refine j_iload_n C 1 rfl rfl dX6_touches_31 ?_
            refine j_iload_n C 2 rfl rfl dX6_touches_32 ?_
            refine j_iload C 5 rfl dX6_touches_33 ?_
            obtain ⟨r4, hr4, h⟩ := Ob_of h
            refine q_X6_68 C (wc := (mW b gm mod_thrown mod_places mod_firings mod_fired mod_logged mod_tokens mod_weights mod_logs mod_marks mod_whence mod_by mod_leads mod_comes mod_costs mod_next mod_found)) (wc' := (mW b gm mod_thrown mod_places mod_firings mod_fired mod_logged mod_tokens mod_weights mod_logs mod_marks mod_whence mod_by mod_leads mod_comes mod_costs mod_next mod_found)) (c_X6_weight l D b gm mod_thrown mod_places mod_firings mod_fired mod_logged mod_tokens mod_weights mod_logs mod_marks mod_whence mod_by mod_leads mod_comes mod_costs mod_next mod_found l1 l2 l5 r4 hr4) ⟨(Nat.le_of_ble_eq_true rfl), (Nat.le_of_ble_eq_true rfl)⟩ rfl rfl 0 rfl rfl (ww _) (ww _) rfl C.2.2.2.2.2.2.1 (Nat.le_of_ble_eq_true rfl) rfl rfl (Nat.zero_le _) (Nat.zero_le _) dX6_touches_35 ?_
            refine j_if_le C h 45 (by decide) dX6_touches_38 (fun c5 h => ?_) (fun c5 h => ?_)
            · refine j_lv [0, 1, 2, 3, 5] rfl ?_
              exact J45 l1 l2 l3 l5 h
            · refine j_lv [0, 1, 2, 3, 5] rfl ?_
              exact J41 l1 l2 l3 l5 h
  unfold F_X6_touches at h
  refine j_iconst C dX6_touches_0 ?_
  refine j_istore C [(4, .int (vI 0)), (0, .ref (b 0)), (1, .int (vI x1)), (2, .int (vI x2)), (3, .int (vI x3))] rfl (by decide) dX6_touches_1 ?_
  refine j_iconst C dX6_touches_3 ?_
  refine j_istore C [(5, .int (vI 0)), (4, .int (vI 0)), (0, .ref (b 0)), (1, .int (vI x1)), (2, .int (vI x2)), (3, .int (vI x3))] rfl (by decide) dX6_touches_4 ?_
  refine j_lv [2, 3, 4, 5, 1, 0] rfl ?_
  exact J6 NN x1 x2 x3 0 0 h
theorem c_X6_touches (l : Launch) (D : va_G) (b : Nat → Nat) (gm : Nat → ClassId) (mod_thrown : Int) (mod_places : Int) (mod_firings : Int) (mod_fired : Int) (mod_logged : Int) (mod_tokens : Nat → Int) (mod_weights : Nat → Int) (mod_logs : Nat → Int) (mod_marks : Nat → Int) (mod_whence : Nat → Int) (mod_by : Nat → Int) (mod_leads : Nat → Int) (mod_comes : Nat → Int) (mod_costs : Nat → Int) (mod_next : Nat → Int) (mod_found : Nat → Int) (x1 : Int) (x2 : Int) (x3 : Int) (res : Int) (h : F_X6_touches x1 x2 x3 mod_places mod_weights = some res) : Kt l yX6_touches cX6_touches 6 (some .boolean) ({ frames := 1, cells := 0, slots := 0, locals := 23 } : Room) D (mT gm) [.ref (b 0), .int (vI x1), .int (vI x2), .int (vI x3)] (mW b gm mod_thrown mod_places mod_firings mod_fired mod_logged mod_tokens mod_weights mod_logs mod_marks mod_whence mod_by mod_leads mod_comes mod_costs mod_next mod_found) (mW b gm mod_thrown mod_places mod_firings mod_fired mod_logged mod_tokens mod_weights mod_logs mod_marks mod_whence mod_by mod_leads mod_comes mod_costs mod_next mod_found) (some (.int (vI res))) :=
  kt_z rfl (by decide +kernel) (Nat.le_of_ble_eq_true rfl) (fun C RET => k_X6_touches C x1 x2 x3 res h RET)
set_option maxRecDepth 100000 in
set_option maxHeartbeats 4000000 in
theorem k_X6_isSiphon {b : Nat → Nat} {gm : Nat → ClassId} {mod_thrown : Int} {mod_places : Int} {mod_firings : Int} {mod_fired : Int} {mod_logged : Int} {mod_tokens : Nat → Int} {mod_weights : Nat → Int} {mod_logs : Nat → Int} {mod_marks : Nat → Int} {mod_whence : Nat → Int} {mod_by : Nat → Int} {mod_leads : Nat → Int} {mod_comes : Nat → Int} {mod_costs : Nat → Int} {mod_next : Nat → Int} {mod_found : Nat → Int} (C : JC p s m args meth c cX6_isSiphon 4 "MarkingHallModel" D (mT gm) A) (x1 : Int) (res : Int) (h : F_X6_isSiphon x1 mod_places mod_firings mod_weights = some res) (RET : ∀ (pc : Nat) (lv : List (Nat × Value)), (res = 0 ∨ res = 1) → decode cX6_isSiphon pc = .ok (.ireturn, 1) → J p l e ({ frames := 2, cells := 0, slots := 0, locals := 48 } : Room) s m args below meth c D A 4 Q 0 0 (mW b gm mod_thrown mod_places mod_firings mod_fired mod_logged mod_tokens mod_weights mod_logs mod_marks mod_whence mod_by mod_leads mod_comes mod_costs mod_next mod_found) pc lv [.int (vI res)]) : J p l e ({ frames := 2, cells := 0, slots := 0, locals := 48 } : Room) s m args below meth c D A 4 Q 0 0 (mW b gm mod_thrown mod_places mod_firings mod_fired mod_logged mod_tokens mod_weights mod_logs mod_marks mod_whence mod_by mod_leads mod_comes mod_costs mod_next mod_found) 0 [(0, .ref (b 0)), (1, .int (vI x1))] [] := by
  have J4 : ∀ (n : Nat) (l1 : Int) (l2 : Int) (l3 : Int), F_X6_isSiphon_b4 mod_places mod_firings mod_weights n l1 l2 l3 = some res → J p l e ({ frames := 2, cells := 0, slots := 0, locals := 48 } : Room) s m args below meth c D A 4 Q 0 0 (mW b gm mod_thrown mod_places mod_firings mod_fired mod_logged mod_tokens mod_weights mod_logs mod_marks mod_whence mod_by mod_leads mod_comes mod_costs mod_next mod_found) 4 [(0, .ref (b 0)), (1, .int (vI l1)), (2, .int (vI l2)), (3, .int (vI l3))] [] := by
    intro n
    induction n with
    | zero => intro l1 l2 l3 h; exact no_h h
    | succ n ih4 =>
      intro l1 l2 l3 h
      replace h : F_X6_isSiphon_b4_body mod_places mod_firings mod_weights (F_X6_isSiphon_b4 mod_places mod_firings mod_weights n) l1 l2 l3 = some res := h
      generalize F_X6_isSiphon_b4 mod_places mod_firings mod_weights n = ag4 at ih4 h
      have J41 : ∀ (l1 : Int) (l3 : Int) (s0 : Int), F_X6_isSiphon_b41 mod_places mod_firings mod_weights ag4 l1 l3 s0 = some res → J p l e ({ frames := 2, cells := 0, slots := 0, locals := 48 } : Room) s m args below meth c D A 4 Q 0 0 (mW b gm mod_thrown mod_places mod_firings mod_fired mod_logged mod_tokens mod_weights mod_logs mod_marks mod_whence mod_by mod_leads mod_comes mod_costs mod_next mod_found) 41 [(0, .ref (b 0)), (1, .int (vI l1)), (3, .int (vI l3))] [.int (vI s0)] := by
        intro l1 l3 s0 h
        unfold F_X6_isSiphon_b41 at h
        refine j_istore_n C [(2, .int (vI s0)), (0, .ref (b 0)), (1, .int (vI l1)), (3, .int (vI l3))] rfl rfl (by decide) dX6_isSiphon_41 ?_
        refine j_iinc C 3 rfl (fun v => [(3, .int (vI v)), (2, .int (vI s0)), (0, .ref (b 0)), (1, .int (vI l1))]) (fun _ => rfl) (by decide) h dX6_isSiphon_42 (fun v1 h => ?_)
        refine j_goto C 4 (by decide) dX6_isSiphon_45 ?_
        refine j_lv [2, 3, 1, 0] rfl ?_
        exact ih4 l1 s0 v1 h
      have J40 : ∀ (l1 : Int) (l3 : Int), F_X6_isSiphon_b40 mod_places mod_firings mod_weights ag4 l1 l3 = some res → J p l e ({ frames := 2, cells := 0, slots := 0, locals := 48 } : Room) s m args below meth c D A 4 Q 0 0 (mW b gm mod_thrown mod_places mod_firings mod_fired mod_logged mod_tokens mod_weights mod_logs mod_marks mod_whence mod_by mod_leads mod_comes mod_costs mod_next mod_found) 40 [(0, .ref (b 0)), (1, .int (vI l1)), (3, .int (vI l3))] [] := by
        intro l1 l3 h
        unfold F_X6_isSiphon_b40 at h
        refine j_iconst C dX6_isSiphon_40 ?_
        exact J41 l1 l3 0 h
      have J36 : ∀ (l1 : Int) (l3 : Int), F_X6_isSiphon_b36 mod_places mod_firings mod_weights ag4 l1 l3 = some res → J p l e ({ frames := 2, cells := 0, slots := 0, locals := 48 } : Room) s m args below meth c D A 4 Q 0 0 (mW b gm mod_thrown mod_places mod_firings mod_fired mod_logged mod_tokens mod_weights mod_logs mod_marks mod_whence mod_by mod_leads mod_comes mod_costs mod_next mod_found) 36 [(0, .ref (b 0)), (1, .int (vI l1)), (3, .int (vI l3))] [] := by
        intro l1 l3 h
        unfold F_X6_isSiphon_b36 at h
        refine j_iconst C dX6_isSiphon_36 ?_
        refine j_goto C 41 (by decide) dX6_isSiphon_37 ?_
        exact J41 l1 l3 1 h
      unfold F_X6_isSiphon_b4_body at h
      refine j_iload_n C 3 rfl rfl dX6_isSiphon_4 ?_
      refine j_aload_n C 0 rfl rfl dX6_isSiphon_5 ?_
      refine g_X6_55 C (v := .int (vI mod_firings)) 0 rfl rfl dX6_isSiphon_6 ?_
      refine j_icmp_ge C h 48 (by decide) dX6_isSiphon_9 (fun c8 h => ?_) (fun c8 h => ?_)
      · refine j_iload_n C 2 rfl rfl dX6_isSiphon_48 ?_
        obtain ⟨hz2, h⟩ := G_of h
        cases h
        exact RET _ _ hz2 dX6_isSiphon_49
      · refine j_iload_n C 2 rfl rfl dX6_isSiphon_12 ?_
        refine j_if_eq C h 40 (by decide) dX6_isSiphon_13 (fun c7 h => ?_) (fun c7 h => ?_)
        · refine j_lv [0, 1, 3] rfl ?_
          exact J40 l1 l3 h
        · refine j_aload_n C 0 rfl rfl dX6_isSiphon_16 ?_
          refine j_iconst C dX6_isSiphon_17 ?_
          refine j_iload_n C 3 rfl rfl dX6_isSiphon_18 ?_
          refine j_iload_n C 1 rfl rfl dX6_isSiphon_19 ?_
          obtain ⟨r3, hr3, h⟩ := Ob_of h
          refine q_X6_142 C (wc := (mW b gm mod_thrown mod_places mod_firings mod_fired mod_logged mod_tokens mod_weights mod_logs mod_marks mod_whence mod_by mod_leads mod_comes mod_costs mod_next mod_found)) (wc' := (mW b gm mod_thrown mod_places mod_firings mod_fired mod_logged mod_tokens mod_weights mod_logs mod_marks mod_whence mod_by mod_leads mod_comes mod_costs mod_next mod_found)) (c_X6_touches l D b gm mod_thrown mod_places mod_firings mod_fired mod_logged mod_tokens mod_weights mod_logs mod_marks mod_whence mod_by mod_leads mod_comes mod_costs mod_next mod_found 1 l3 l1 r3 hr3) ⟨(Nat.le_of_ble_eq_true rfl), (Nat.le_of_ble_eq_true rfl)⟩ rfl rfl 0 rfl rfl (ww _) (ww _) rfl C.2.2.2.2.2.2.1 (Nat.le_of_ble_eq_true rfl) rfl rfl (Nat.zero_le _) (Nat.zero_le _) dX6_isSiphon_20 ?_
          refine j_if_eq C h 36 (by decide) dX6_isSiphon_23 (fun c6 h => ?_) (fun c6 h => ?_)
          · refine j_lv [0, 1, 3] rfl ?_
            exact J36 l1 l3 h
          · refine j_aload_n C 0 rfl rfl dX6_isSiphon_26 ?_
            refine j_iconst C dX6_isSiphon_27 ?_
            refine j_iload_n C 3 rfl rfl dX6_isSiphon_28 ?_
            refine j_iload_n C 1 rfl rfl dX6_isSiphon_29 ?_
            obtain ⟨r4, hr4, h⟩ := Ob_of h
            refine q_X6_142 C (wc := (mW b gm mod_thrown mod_places mod_firings mod_fired mod_logged mod_tokens mod_weights mod_logs mod_marks mod_whence mod_by mod_leads mod_comes mod_costs mod_next mod_found)) (wc' := (mW b gm mod_thrown mod_places mod_firings mod_fired mod_logged mod_tokens mod_weights mod_logs mod_marks mod_whence mod_by mod_leads mod_comes mod_costs mod_next mod_found)) (c_X6_touches l D b gm mod_thrown mod_places mod_firings mod_fired mod_logged mod_tokens mod_weights mod_logs mod_marks mod_whence mod_by mod_leads mod_comes mod_costs mod_next mod_found 0 l3 l1 r4 hr4) ⟨(Nat.le_of_ble_eq_true rfl), (Nat.le_of_ble_eq_true rfl)⟩ rfl rfl 0 rfl rfl (ww _) (ww _) rfl C.2.2.2.2.2.2.1 (Nat.le_of_ble_eq_true rfl) rfl rfl (Nat.zero_le _) (Nat.zero_le _) dX6_isSiphon_30 ?_
            refine j_if_eq C h 40 (by decide) dX6_isSiphon_33 (fun c5 h => ?_) (fun c5 h => ?_)
            · refine j_lv [0, 1, 3] rfl ?_
              exact J40 l1 l3 h
            · refine j_lv [0, 1, 3] rfl ?_
              exact J36 l1 l3 h
  unfold F_X6_isSiphon at h
  refine j_iconst C dX6_isSiphon_0 ?_
  refine j_istore_n C [(2, .int (vI 1)), (0, .ref (b 0)), (1, .int (vI x1))] rfl rfl (by decide) dX6_isSiphon_1 ?_
  refine j_iconst C dX6_isSiphon_2 ?_
  refine j_istore_n C [(3, .int (vI 0)), (2, .int (vI 1)), (0, .ref (b 0)), (1, .int (vI x1))] rfl rfl (by decide) dX6_isSiphon_3 ?_
  refine j_lv [2, 3, 1, 0] rfl ?_
  exact J4 NN x1 1 0 h
theorem c_X6_isSiphon (l : Launch) (D : va_G) (b : Nat → Nat) (gm : Nat → ClassId) (mod_thrown : Int) (mod_places : Int) (mod_firings : Int) (mod_fired : Int) (mod_logged : Int) (mod_tokens : Nat → Int) (mod_weights : Nat → Int) (mod_logs : Nat → Int) (mod_marks : Nat → Int) (mod_whence : Nat → Int) (mod_by : Nat → Int) (mod_leads : Nat → Int) (mod_comes : Nat → Int) (mod_costs : Nat → Int) (mod_next : Nat → Int) (mod_found : Nat → Int) (x1 : Int) (res : Int) (h : F_X6_isSiphon x1 mod_places mod_firings mod_weights = some res) : Kt l yX6_isSiphon cX6_isSiphon 4 (some .boolean) ({ frames := 2, cells := 0, slots := 0, locals := 48 } : Room) D (mT gm) [.ref (b 0), .int (vI x1)] (mW b gm mod_thrown mod_places mod_firings mod_fired mod_logged mod_tokens mod_weights mod_logs mod_marks mod_whence mod_by mod_leads mod_comes mod_costs mod_next mod_found) (mW b gm mod_thrown mod_places mod_firings mod_fired mod_logged mod_tokens mod_weights mod_logs mod_marks mod_whence mod_by mod_leads mod_comes mod_costs mod_next mod_found) (some (.int (vI res))) :=
  kt_z rfl (by decide +kernel) (Nat.le_of_ble_eq_true rfl) (fun C RET => k_X6_isSiphon C x1 res h RET)
set_option maxRecDepth 100000 in
set_option maxHeartbeats 4000000 in
theorem k_X6_findSiphons {b : Nat → Nat} {gm : Nat → ClassId} {mod_thrown : Int} {mod_places : Int} {mod_firings : Int} {mod_fired : Int} {mod_logged : Int} {mod_tokens : Nat → Int} {mod_weights : Nat → Int} {mod_logs : Nat → Int} {mod_marks : Nat → Int} {mod_whence : Nat → Int} {mod_by : Nat → Int} {mod_leads : Nat → Int} {mod_comes : Nat → Int} {mod_costs : Nat → Int} {mod_next : Nat → Int} {mod_found : Nat → Int} (C : JC p s m args meth c cX6_findSiphons 5 "MarkingHallModel" D (mT gm) A)  (res : Int × (Nat → Int)) (h : F_X6_findSiphons mod_places mod_firings mod_weights mod_found = some res) (RET : ∀ (pc : Nat) (lv : List (Nat × Value)), decode cX6_findSiphons pc = .ok (.ireturn, 1) → J p l e ({ frames := 3, cells := 0, slots := 0, locals := 71 } : Room) s m args below meth c D A 5 Q 0 0 (mW b gm mod_thrown mod_places mod_firings mod_fired mod_logged mod_tokens mod_weights mod_logs mod_marks mod_whence mod_by mod_leads mod_comes mod_costs mod_next res.2) pc lv [.int (vI res.1)]) : J p l e ({ frames := 3, cells := 0, slots := 0, locals := 71 } : Room) s m args below meth c D A 5 Q 0 0 (mW b gm mod_thrown mod_places mod_firings mod_fired mod_logged mod_tokens mod_weights mod_logs mod_marks mod_whence mod_by mod_leads mod_comes mod_costs mod_next mod_found) 0 [(0, .ref (b 0))] [] := by
  have J4 : ∀ (n : Nat) (l1 : Int) (l2 : Int) (mod_found : Nat → Int), F_X6_findSiphons_b4 mod_places mod_firings mod_weights n l1 l2 mod_found = some res → J p l e ({ frames := 3, cells := 0, slots := 0, locals := 71 } : Room) s m args below meth c D A 5 Q 0 0 (mW b gm mod_thrown mod_places mod_firings mod_fired mod_logged mod_tokens mod_weights mod_logs mod_marks mod_whence mod_by mod_leads mod_comes mod_costs mod_next mod_found) 4 [(0, .ref (b 0)), (1, .int (vI l1)), (2, .int (vI l2))] [] := by
    intro n
    induction n with
    | zero => intro l1 l2 mod_found h; exact no_h h
    | succ n ih4 =>
      intro l1 l2 mod_found h
      replace h : F_X6_findSiphons_b4_body mod_places mod_firings mod_weights (F_X6_findSiphons_b4 mod_places mod_firings mod_weights n) l1 l2 mod_found = some res := h
      generalize F_X6_findSiphons_b4 mod_places mod_firings mod_weights n = ag4 at ih4 h
      have J73 : ∀ (l1 : Int) (l2 : Int) (mod_found : Nat → Int), F_X6_findSiphons_b73 mod_places mod_firings mod_weights ag4 l1 l2 mod_found = some res → J p l e ({ frames := 3, cells := 0, slots := 0, locals := 71 } : Room) s m args below meth c D A 5 Q 0 0 (mW b gm mod_thrown mod_places mod_firings mod_fired mod_logged mod_tokens mod_weights mod_logs mod_marks mod_whence mod_by mod_leads mod_comes mod_costs mod_next mod_found) 73 [(0, .ref (b 0)), (1, .int (vI l1)), (2, .int (vI l2))] [] := by
        intro l1 l2 mod_found h
        unfold F_X6_findSiphons_b73 at h
        refine j_iinc C 2 rfl (fun v => [(2, .int (vI v)), (0, .ref (b 0)), (1, .int (vI l1))]) (fun _ => rfl) (by decide) h dX6_findSiphons_73 (fun v1 h => ?_)
        refine j_goto C 4 (by decide) dX6_findSiphons_76 ?_
        refine j_lv [1, 2, 0] rfl ?_
        exact ih4 l1 v1 mod_found h
      have J23 : ∀ (n : Nat) (l1 : Int) (l2 : Int) (l3 : Int) (l4 : Int) (mod_found : Nat → Int), F_X6_findSiphons_b23 mod_places mod_firings mod_weights ag4 n l1 l2 l3 l4 mod_found = some res → J p l e ({ frames := 3, cells := 0, slots := 0, locals := 71 } : Room) s m args below meth c D A 5 Q 0 0 (mW b gm mod_thrown mod_places mod_firings mod_fired mod_logged mod_tokens mod_weights mod_logs mod_marks mod_whence mod_by mod_leads mod_comes mod_costs mod_next mod_found) 23 [(0, .ref (b 0)), (1, .int (vI l1)), (2, .int (vI l2)), (3, .int (vI l3)), (4, .int (vI l4))] [] := by
        intro n
        induction n with
        | zero => intro l1 l2 l3 l4 mod_found h; exact no_h h
        | succ n ih23 =>
          intro l1 l2 l3 l4 mod_found h
          replace h : F_X6_findSiphons_b23_body mod_places mod_firings mod_weights ag4 (F_X6_findSiphons_b23 mod_places mod_firings mod_weights ag4 n) l1 l2 l3 l4 mod_found = some res := h
          generalize F_X6_findSiphons_b23 mod_places mod_firings mod_weights ag4 n = ag23 at ih23 h
          have J52 : ∀ (l1 : Int) (l2 : Int) (l4 : Int) (s0 : Int) (mod_found : Nat → Int), F_X6_findSiphons_b52 mod_places mod_firings mod_weights ag4 ag23 l1 l2 l4 s0 mod_found = some res → J p l e ({ frames := 3, cells := 0, slots := 0, locals := 71 } : Room) s m args below meth c D A 5 Q 0 0 (mW b gm mod_thrown mod_places mod_firings mod_fired mod_logged mod_tokens mod_weights mod_logs mod_marks mod_whence mod_by mod_leads mod_comes mod_costs mod_next mod_found) 52 [(0, .ref (b 0)), (1, .int (vI l1)), (2, .int (vI l2)), (4, .int (vI l4))] [.int (vI s0)] := by
            intro l1 l2 l4 s0 mod_found h
            unfold F_X6_findSiphons_b52 at h
            refine j_istore_n C [(3, .int (vI s0)), (0, .ref (b 0)), (1, .int (vI l1)), (2, .int (vI l2)), (4, .int (vI l4))] rfl rfl (by decide) dX6_findSiphons_52 ?_
            refine j_iinc C 4 rfl (fun v => [(4, .int (vI v)), (3, .int (vI s0)), (0, .ref (b 0)), (1, .int (vI l1)), (2, .int (vI l2))]) (fun _ => rfl) (by decide) h dX6_findSiphons_53 (fun v2 h => ?_)
            refine j_goto C 23 (by decide) dX6_findSiphons_56 ?_
            refine j_lv [2, 3, 4, 1, 0] rfl ?_
            exact ih23 l1 l2 s0 v2 mod_found h
          have J51 : ∀ (l1 : Int) (l2 : Int) (l4 : Int) (mod_found : Nat → Int), F_X6_findSiphons_b51 mod_places mod_firings mod_weights ag4 ag23 l1 l2 l4 mod_found = some res → J p l e ({ frames := 3, cells := 0, slots := 0, locals := 71 } : Room) s m args below meth c D A 5 Q 0 0 (mW b gm mod_thrown mod_places mod_firings mod_fired mod_logged mod_tokens mod_weights mod_logs mod_marks mod_whence mod_by mod_leads mod_comes mod_costs mod_next mod_found) 51 [(0, .ref (b 0)), (1, .int (vI l1)), (2, .int (vI l2)), (4, .int (vI l4))] [] := by
            intro l1 l2 l4 mod_found h
            unfold F_X6_findSiphons_b51 at h
            refine j_iconst C dX6_findSiphons_51 ?_
            exact J52 l1 l2 l4 0 mod_found h
          unfold F_X6_findSiphons_b23_body at h
          refine j_iload C 4 rfl dX6_findSiphons_23 ?_
          refine j_iload_n C 1 rfl rfl dX6_findSiphons_25 ?_
          refine j_icmp_ge C h 59 (by decide) dX6_findSiphons_26 (fun c10 h => ?_) (fun c10 h => ?_)
          · refine j_iload_n C 3 rfl rfl dX6_findSiphons_59 ?_
            refine j_if_eq C h 73 (by decide) dX6_findSiphons_60 (fun c5 h => ?_) (fun c5 h => ?_)
            · refine j_lv [0, 1, 2] rfl ?_
              exact J73 l1 l2 mod_found h
            · refine j_aload_n C 0 rfl rfl dX6_findSiphons_63 ?_
              refine g_X6_41 C (v := .ref (b 11)) 0 rfl rfl dX6_findSiphons_64 ?_
              refine j_iload_n C 1 rfl rfl dX6_findSiphons_67 ?_
              refine j_iload_n C 2 rfl rfl dX6_findSiphons_68 ?_
              refine j_iast C 11 10 rfl rfl (Nat.le_of_ble_eq_true rfl) (fun f' => (mW b gm mod_thrown mod_places mod_firings mod_fired mod_logged mod_tokens mod_weights mod_logs mod_marks mod_whence mod_by mod_leads mod_comes mod_costs mod_next f')) (fun _ => rfl) h dX6_findSiphons_69 (fun f3 h => ?_)
              refine j_iinc C 1 rfl (fun v => [(1, .int (vI v)), (0, .ref (b 0)), (2, .int (vI l2)), (3, .int (vI l3)), (4, .int (vI l4))]) (fun _ => rfl) (by decide) h dX6_findSiphons_70 (fun v4 h => ?_)
              refine j_lv [1, 0, 2] rfl ?_
              exact J73 v4 l2 f3 h
          · refine j_iload_n C 3 rfl rfl dX6_findSiphons_29 ?_
            refine j_if_eq C h 51 (by decide) dX6_findSiphons_30 (fun c9 h => ?_) (fun c9 h => ?_)
            · refine j_lv [0, 1, 2, 4] rfl ?_
              exact J51 l1 l2 l4 mod_found h
            · refine j_aload_n C 0 rfl rfl dX6_findSiphons_33 ?_
              refine g_X6_41 C (v := .ref (b 11)) 0 rfl rfl dX6_findSiphons_34 ?_
              refine j_iload C 4 rfl dX6_findSiphons_37 ?_
              refine j_iald C 11 10 rfl rfl (Nat.le_of_ble_eq_true rfl) h dX6_findSiphons_39 (fun v6 h => ?_)
              refine j_iload_n C 2 rfl rfl dX6_findSiphons_40 ?_
              refine j_iconst C dX6_findSiphons_41 ?_
              refine j_ixor C dX6_findSiphons_42 ?_
              refine j_iand C dX6_findSiphons_43 ?_
              refine j_nm h (fun v7 h => ?_)
              refine j_if_eq C h 51 (by decide) dX6_findSiphons_44 (fun c8 h => ?_) (fun c8 h => ?_)
              · refine j_lv [0, 1, 2, 4] rfl ?_
                exact J51 l1 l2 l4 mod_found h
              · refine j_iconst C dX6_findSiphons_47 ?_
                refine j_goto C 52 (by decide) dX6_findSiphons_48 ?_
                refine j_lv [0, 1, 2, 4] rfl ?_
                exact J52 l1 l2 l4 1 mod_found h
      unfold F_X6_findSiphons_b4_body at h
      refine j_iload_n C 2 rfl rfl dX6_findSiphons_4 ?_
      refine j_iconst C dX6_findSiphons_5 ?_
      refine j_aload_n C 0 rfl rfl dX6_findSiphons_6 ?_
      refine g_X6_48 C (v := .int (vI mod_places)) 0 rfl rfl dX6_findSiphons_7 ?_
      refine j_ishl C dX6_findSiphons_10 ?_
      refine j_nm h (fun v11 h => ?_)
      refine j_icmp_ge C h 79 (by decide) dX6_findSiphons_11 (fun c13 h => ?_) (fun c13 h => ?_)
      · refine j_iload_n C 1 rfl rfl dX6_findSiphons_79 ?_
        cases h
        exact RET _ _ dX6_findSiphons_80
      · refine j_aload_n C 0 rfl rfl dX6_findSiphons_14 ?_
        refine j_iload_n C 2 rfl rfl dX6_findSiphons_15 ?_
        obtain ⟨r12, hr12, h⟩ := Ob_of h
        refine q_X6_145 C (wc := (mW b gm mod_thrown mod_places mod_firings mod_fired mod_logged mod_tokens mod_weights mod_logs mod_marks mod_whence mod_by mod_leads mod_comes mod_costs mod_next mod_found)) (wc' := (mW b gm mod_thrown mod_places mod_firings mod_fired mod_logged mod_tokens mod_weights mod_logs mod_marks mod_whence mod_by mod_leads mod_comes mod_costs mod_next mod_found)) (c_X6_isSiphon l D b gm mod_thrown mod_places mod_firings mod_fired mod_logged mod_tokens mod_weights mod_logs mod_marks mod_whence mod_by mod_leads mod_comes mod_costs mod_next mod_found l2 r12 hr12) ⟨(Nat.le_of_ble_eq_true rfl), (Nat.le_of_ble_eq_true rfl)⟩ rfl rfl 0 rfl rfl (ww _) (ww _) rfl C.2.2.2.2.2.2.1 (Nat.le_of_ble_eq_true rfl) rfl rfl (Nat.zero_le _) (Nat.zero_le _) dX6_findSiphons_16 ?_
        refine j_istore_n C [(3, .int (vI r12)), (0, .ref (b 0)), (1, .int (vI l1)), (2, .int (vI l2))] rfl rfl (by decide) dX6_findSiphons_19 ?_
        refine j_iconst C dX6_findSiphons_20 ?_
        refine j_istore C [(4, .int (vI 0)), (3, .int (vI r12)), (0, .ref (b 0)), (1, .int (vI l1)), (2, .int (vI l2))] rfl (by decide) dX6_findSiphons_21 ?_
        refine j_lv [2, 3, 4, 1, 0] rfl ?_
        exact J23 NN l1 l2 r12 0 mod_found h
  unfold F_X6_findSiphons at h
  refine j_iconst C dX6_findSiphons_0 ?_
  refine j_istore_n C [(1, .int (vI 0)), (0, .ref (b 0))] rfl rfl (by decide) dX6_findSiphons_1 ?_
  refine j_iconst C dX6_findSiphons_2 ?_
  refine j_istore_n C [(2, .int (vI 1)), (1, .int (vI 0)), (0, .ref (b 0))] rfl rfl (by decide) dX6_findSiphons_3 ?_
  refine j_lv [2, 1, 0] rfl ?_
  exact J4 NN 0 1 mod_found h
theorem c_X6_findSiphons (l : Launch) (D : va_G) (b : Nat → Nat) (gm : Nat → ClassId) (mod_thrown : Int) (mod_places : Int) (mod_firings : Int) (mod_fired : Int) (mod_logged : Int) (mod_tokens : Nat → Int) (mod_weights : Nat → Int) (mod_logs : Nat → Int) (mod_marks : Nat → Int) (mod_whence : Nat → Int) (mod_by : Nat → Int) (mod_leads : Nat → Int) (mod_comes : Nat → Int) (mod_costs : Nat → Int) (mod_next : Nat → Int) (mod_found : Nat → Int)  (res : Int × (Nat → Int)) (h : F_X6_findSiphons mod_places mod_firings mod_weights mod_found = some res) : Kt l yX6_findSiphons cX6_findSiphons 5 (some .int) ({ frames := 3, cells := 0, slots := 0, locals := 71 } : Room) D (mT gm) [.ref (b 0)] (mW b gm mod_thrown mod_places mod_firings mod_fired mod_logged mod_tokens mod_weights mod_logs mod_marks mod_whence mod_by mod_leads mod_comes mod_costs mod_next mod_found) (mW b gm mod_thrown mod_places mod_firings mod_fired mod_logged mod_tokens mod_weights mod_logs mod_marks mod_whence mod_by mod_leads mod_comes mod_costs mod_next res.2) (some (.int (vI res.1))) :=
  kt_i (ty := .int) rfl rfl (by decide +kernel) (Nat.le_of_ble_eq_true rfl) (fun C RET => k_X6_findSiphons C res h RET)
set_option maxRecDepth 100000 in
set_option maxHeartbeats 4000000 in
theorem k_X6_siphons {b : Nat → Nat} {gm : Nat → ClassId} {mod_thrown : Int} {mod_places : Int} {mod_firings : Int} {mod_fired : Int} {mod_logged : Int} {mod_tokens : Nat → Int} {mod_weights : Nat → Int} {mod_logs : Nat → Int} {mod_marks : Nat → Int} {mod_whence : Nat → Int} {mod_by : Nat → Int} {mod_leads : Nat → Int} {mod_comes : Nat → Int} {mod_costs : Nat → Int} {mod_next : Nat → Int} {mod_found : Nat → Int} (C : JC p s m args meth c cX6_siphons 1 "MarkingHallModel" D (mT gm) A)  (res : Int × (Int) × (Nat → Int)) (h : F_X6_siphons mod_places mod_firings mod_weights mod_thrown mod_found = some res) (RET : ∀ (pc : Nat) (lv : List (Nat × Value)), decode cX6_siphons pc = .ok (.ireturn, 1) → J p l e ({ frames := 4, cells := 0, slots := 0, locals := 95 } : Room) s m args below meth c D A 1 Q 0 0 (mW b gm res.2.1 mod_places mod_firings mod_fired mod_logged mod_tokens mod_weights mod_logs mod_marks mod_whence mod_by mod_leads mod_comes mod_costs mod_next res.2.2) pc lv [.int (vI res.1)]) : J p l e ({ frames := 4, cells := 0, slots := 0, locals := 95 } : Room) s m args below meth c D A 1 Q 0 0 (mW b gm mod_thrown mod_places mod_firings mod_fired mod_logged mod_tokens mod_weights mod_logs mod_marks mod_whence mod_by mod_leads mod_comes mod_costs mod_next mod_found) 0 [(0, .ref (b 0))] [] := by
  unfold F_X6_siphons at h
  refine j_aload_n C 0 rfl rfl dX6_siphons_0 ?_
  refine j_iconst C dX6_siphons_1 ?_
  refine p_X6_44 C 0 rfl (Nat.le_of_ble_eq_true rfl) (mW b gm 0 mod_places mod_firings mod_fired mod_logged mod_tokens mod_weights mod_logs mod_marks mod_whence mod_by mod_leads mod_comes mod_costs mod_next mod_found) rfl dX6_siphons_2 ?_
  refine j_aload_n C 0 rfl rfl dX6_siphons_5 ?_
  obtain ⟨r1, hr1, h⟩ := Ob_of h
  refine q_X6_148 C (wc := (mW b gm 0 mod_places mod_firings mod_fired mod_logged mod_tokens mod_weights mod_logs mod_marks mod_whence mod_by mod_leads mod_comes mod_costs mod_next mod_found)) (wc' := (mW b gm 0 mod_places mod_firings mod_fired mod_logged mod_tokens mod_weights mod_logs mod_marks mod_whence mod_by mod_leads mod_comes mod_costs mod_next r1.2)) (c_X6_findSiphons l D b gm 0 mod_places mod_firings mod_fired mod_logged mod_tokens mod_weights mod_logs mod_marks mod_whence mod_by mod_leads mod_comes mod_costs mod_next mod_found r1 hr1) ⟨(Nat.le_of_ble_eq_true rfl), (Nat.le_of_ble_eq_true rfl)⟩ rfl rfl 0 rfl rfl (ww _) (ww _) mW_ha C.2.2.2.2.2.2.1 (Nat.le_of_ble_eq_true rfl) rfl rfl (Nat.zero_le _) (Nat.zero_le _) dX6_siphons_6 ?_
  cases h
  exact RET _ _ dX6_siphons_9
theorem c_X6_siphons (l : Launch) (D : va_G) (b : Nat → Nat) (gm : Nat → ClassId) (mod_thrown : Int) (mod_places : Int) (mod_firings : Int) (mod_fired : Int) (mod_logged : Int) (mod_tokens : Nat → Int) (mod_weights : Nat → Int) (mod_logs : Nat → Int) (mod_marks : Nat → Int) (mod_whence : Nat → Int) (mod_by : Nat → Int) (mod_leads : Nat → Int) (mod_comes : Nat → Int) (mod_costs : Nat → Int) (mod_next : Nat → Int) (mod_found : Nat → Int)  (res : Int × (Int) × (Nat → Int)) (h : F_X6_siphons mod_places mod_firings mod_weights mod_thrown mod_found = some res) : Kt l yX6_siphons cX6_siphons 1 (some .int) ({ frames := 4, cells := 0, slots := 0, locals := 95 } : Room) D (mT gm) [.ref (b 0)] (mW b gm mod_thrown mod_places mod_firings mod_fired mod_logged mod_tokens mod_weights mod_logs mod_marks mod_whence mod_by mod_leads mod_comes mod_costs mod_next mod_found) (mW b gm res.2.1 mod_places mod_firings mod_fired mod_logged mod_tokens mod_weights mod_logs mod_marks mod_whence mod_by mod_leads mod_comes mod_costs mod_next res.2.2) (some (.int (vI res.1))) :=
  kt_i (ty := .int) rfl rfl (by decide +kernel) (Nat.le_of_ble_eq_true rfl) (fun C RET => k_X6_siphons C res h RET)
set_option maxRecDepth 100000 in
set_option maxHeartbeats 4000000 in
theorem k_X6_siphon {b : Nat → Nat} {gm : Nat → ClassId} {mod_thrown : Int} {mod_places : Int} {mod_firings : Int} {mod_fired : Int} {mod_logged : Int} {mod_tokens : Nat → Int} {mod_weights : Nat → Int} {mod_logs : Nat → Int} {mod_marks : Nat → Int} {mod_whence : Nat → Int} {mod_by : Nat → Int} {mod_leads : Nat → Int} {mod_comes : Nat → Int} {mod_costs : Nat → Int} {mod_next : Nat → Int} {mod_found : Nat → Int} (C : JC p s m args meth c cX6_siphon 2 "MarkingHallModel" D (mT gm) A) (x1 : Int) (res : Int × (Int) × (Nat → Int)) (h : F_X6_siphon x1 mod_places mod_firings mod_weights mod_thrown mod_found = some res) (RET : ∀ (pc : Nat) (lv : List (Nat × Value)), decode cX6_siphon pc = .ok (.ireturn, 1) → J p l e ({ frames := 4, cells := 0, slots := 0, locals := 95 } : Room) s m args below meth c D A 2 Q 0 0 (mW b gm res.2.1 mod_places mod_firings mod_fired mod_logged mod_tokens mod_weights mod_logs mod_marks mod_whence mod_by mod_leads mod_comes mod_costs mod_next res.2.2) pc lv [.int (vI res.1)]) : J p l e ({ frames := 4, cells := 0, slots := 0, locals := 95 } : Room) s m args below meth c D A 2 Q 0 0 (mW b gm mod_thrown mod_places mod_firings mod_fired mod_logged mod_tokens mod_weights mod_logs mod_marks mod_whence mod_by mod_leads mod_comes mod_costs mod_next mod_found) 0 [(0, .ref (b 0)), (1, .int (vI x1))] [] := by
  have J20 : ∀ (l1 : Int) (s1 : Int) (mod_thrown : Int) (mod_found : Nat → Int), F_X6_siphon_b20 mod_places mod_firings mod_weights l1 s1 mod_thrown mod_found = some res → J p l e ({ frames := 4, cells := 0, slots := 0, locals := 95 } : Room) s m args below meth c D A 2 Q 0 0 (mW b gm mod_thrown mod_places mod_firings mod_fired mod_logged mod_tokens mod_weights mod_logs mod_marks mod_whence mod_by mod_leads mod_comes mod_costs mod_next mod_found) 20 [(0, .ref (b 0)), (1, .int (vI l1))] [.int (vI s1), .ref (b 0)] := by
    intro l1 s1 mod_thrown mod_found h
    unfold F_X6_siphon_b20 at h
    obtain ⟨r1, hr1, h⟩ := Ob_of h
    refine q_X6_58 C (wc := (mW b gm mod_thrown mod_places mod_firings mod_fired mod_logged mod_tokens mod_weights mod_logs mod_marks mod_whence mod_by mod_leads mod_comes mod_costs mod_next mod_found)) (wc' := (mW b gm r1.2 mod_places mod_firings mod_fired mod_logged mod_tokens mod_weights mod_logs mod_marks mod_whence mod_by mod_leads mod_comes mod_costs mod_next mod_found)) (c_X6_goesWell l D b gm mod_thrown mod_places mod_firings mod_fired mod_logged mod_tokens mod_weights mod_logs mod_marks mod_whence mod_by mod_leads mod_comes mod_costs mod_next mod_found s1 r1 hr1) ⟨(Nat.le_of_ble_eq_true rfl), (Nat.le_of_ble_eq_true rfl)⟩ rfl rfl 0 rfl rfl (ww _) (ww _) mW_ha C.2.2.2.2.2.2.1 (Nat.le_of_ble_eq_true rfl) rfl rfl (Nat.zero_le _) (Nat.zero_le _) dX6_siphon_20 ?_
    refine j_if_eq C h 35 (by decide) dX6_siphon_23 (fun c3 h => ?_) (fun c3 h => ?_)
    · refine j_iconst C dX6_siphon_35 ?_
      cases h
      exact RET _ _ dX6_siphon_36
    · refine j_aload_n C 0 rfl rfl dX6_siphon_26 ?_
      refine g_X6_41 C (v := .ref (b 11)) 0 rfl rfl dX6_siphon_27 ?_
      refine j_iload_n C 1 rfl rfl dX6_siphon_30 ?_
      refine j_iald C 11 10 rfl rfl (Nat.le_of_ble_eq_true rfl) h dX6_siphon_31 (fun v2 h => ?_)
      refine j_goto C 36 (by decide) dX6_siphon_32 ?_
      cases h
      exact RET _ _ dX6_siphon_36
  unfold F_X6_siphon at h
  refine j_aload_n C 0 rfl rfl dX6_siphon_0 ?_
  refine j_iload_n C 1 rfl rfl dX6_siphon_1 ?_
  refine j_iconst C dX6_siphon_2 ?_
  refine j_aload_n C 0 rfl rfl dX6_siphon_3 ?_
  obtain ⟨r4, hr4, h⟩ := Ob_of h
  refine q_X6_148 C (wc := (mW b gm mod_thrown mod_places mod_firings mod_fired mod_logged mod_tokens mod_weights mod_logs mod_marks mod_whence mod_by mod_leads mod_comes mod_costs mod_next mod_found)) (wc' := (mW b gm mod_thrown mod_places mod_firings mod_fired mod_logged mod_tokens mod_weights mod_logs mod_marks mod_whence mod_by mod_leads mod_comes mod_costs mod_next r4.2)) (c_X6_findSiphons l D b gm mod_thrown mod_places mod_firings mod_fired mod_logged mod_tokens mod_weights mod_logs mod_marks mod_whence mod_by mod_leads mod_comes mod_costs mod_next mod_found r4 hr4) ⟨(Nat.le_of_ble_eq_true rfl), (Nat.le_of_ble_eq_true rfl)⟩ rfl rfl 0 rfl rfl (ww _) (ww _) mW_ha C.2.2.2.2.2.2.1 (Nat.le_of_ble_eq_true rfl) rfl rfl (Nat.zero_le _) (Nat.zero_le _) dX6_siphon_4 ?_
  refine j_iconst C dX6_siphon_7 ?_
  refine j_isub C dX6_siphon_8 ?_
  obtain ⟨r5, hr5, h⟩ := Ob_of h
  refine q_X6_51 C (wc := (mW b gm mod_thrown mod_places mod_firings mod_fired mod_logged mod_tokens mod_weights mod_logs mod_marks mod_whence mod_by mod_leads mod_comes mod_costs mod_next r4.2)) (wc' := (mW b gm mod_thrown mod_places mod_firings mod_fired mod_logged mod_tokens mod_weights mod_logs mod_marks mod_whence mod_by mod_leads mod_comes mod_costs mod_next r4.2)) (c_X6_in l D _ _ x1 0 (r4.1 - 1) r5 hr5) ⟨(Nat.le_of_ble_eq_true rfl), (Nat.le_of_ble_eq_true rfl)⟩ rfl rfl rfl (ww _) (ww _) rfl C.2.2.2.2.2.2.1 (Nat.le_of_ble_eq_true rfl) rfl rfl (Nat.zero_le _) (Nat.zero_le _) dX6_siphon_9 ?_
  refine j_if_eq C h 19 (by decide) dX6_siphon_12 (fun c6 h => ?_) (fun c6 h => ?_)
  · refine j_iconst C dX6_siphon_19 ?_
    exact J20 x1 1 mod_thrown r4.2 h
  · refine j_iconst C dX6_siphon_15 ?_
    refine j_goto C 20 (by decide) dX6_siphon_16 ?_
    exact J20 x1 0 mod_thrown r4.2 h
theorem c_X6_siphon (l : Launch) (D : va_G) (b : Nat → Nat) (gm : Nat → ClassId) (mod_thrown : Int) (mod_places : Int) (mod_firings : Int) (mod_fired : Int) (mod_logged : Int) (mod_tokens : Nat → Int) (mod_weights : Nat → Int) (mod_logs : Nat → Int) (mod_marks : Nat → Int) (mod_whence : Nat → Int) (mod_by : Nat → Int) (mod_leads : Nat → Int) (mod_comes : Nat → Int) (mod_costs : Nat → Int) (mod_next : Nat → Int) (mod_found : Nat → Int) (x1 : Int) (res : Int × (Int) × (Nat → Int)) (h : F_X6_siphon x1 mod_places mod_firings mod_weights mod_thrown mod_found = some res) : Kt l yX6_siphon cX6_siphon 2 (some .int) ({ frames := 4, cells := 0, slots := 0, locals := 95 } : Room) D (mT gm) [.ref (b 0), .int (vI x1)] (mW b gm mod_thrown mod_places mod_firings mod_fired mod_logged mod_tokens mod_weights mod_logs mod_marks mod_whence mod_by mod_leads mod_comes mod_costs mod_next mod_found) (mW b gm res.2.1 mod_places mod_firings mod_fired mod_logged mod_tokens mod_weights mod_logs mod_marks mod_whence mod_by mod_leads mod_comes mod_costs mod_next res.2.2) (some (.int (vI res.1))) :=
  kt_i (ty := .int) rfl rfl (by decide +kernel) (Nat.le_of_ble_eq_true rfl) (fun C RET => k_X6_siphon C x1 res h RET)
set_option maxRecDepth 100000 in
set_option maxHeartbeats 4000000 in
theorem k_X6_trapIn {b : Nat → Nat} {gm : Nat → ClassId} {mod_thrown : Int} {mod_places : Int} {mod_firings : Int} {mod_fired : Int} {mod_logged : Int} {mod_tokens : Nat → Int} {mod_weights : Nat → Int} {mod_logs : Nat → Int} {mod_marks : Nat → Int} {mod_whence : Nat → Int} {mod_by : Nat → Int} {mod_leads : Nat → Int} {mod_comes : Nat → Int} {mod_costs : Nat → Int} {mod_next : Nat → Int} {mod_found : Nat → Int} (C : JC p s m args meth c cX6_trapIn 7 "MarkingHallModel" D (mT gm) A) (x1 : Int) (res : Int) (h : F_X6_trapIn x1 mod_places mod_firings mod_weights = some res) (RET : ∀ (pc : Nat) (lv : List (Nat × Value)), decode cX6_trapIn pc = .ok (.ireturn, 1) → J p l e ({ frames := 2, cells := 0, slots := 0, locals := 48 } : Room) s m args below meth c D A 7 Q 0 0 (mW b gm mod_thrown mod_places mod_firings mod_fired mod_logged mod_tokens mod_weights mod_logs mod_marks mod_whence mod_by mod_leads mod_comes mod_costs mod_next mod_found) pc lv [.int (vI res)]) : J p l e ({ frames := 2, cells := 0, slots := 0, locals := 48 } : Room) s m args below meth c D A 7 Q 0 0 (mW b gm mod_thrown mod_places mod_firings mod_fired mod_logged mod_tokens mod_weights mod_logs mod_marks mod_whence mod_by mod_leads mod_comes mod_costs mod_next mod_found) 0 [(0, .ref (b 0)), (1, .int (vI x1))] [] := by
  have J4 : ∀ (n : Nat) (l2 : Int) (l3 : Int), F_X6_trapIn_b4 mod_places mod_firings mod_weights n l2 l3 = some res → J p l e ({ frames := 2, cells := 0, slots := 0, locals := 48 } : Room) s m args below meth c D A 7 Q 0 0 (mW b gm mod_thrown mod_places mod_firings mod_fired mod_logged mod_tokens mod_weights mod_logs mod_marks mod_whence mod_by mod_leads mod_comes mod_costs mod_next mod_found) 4 [(0, .ref (b 0)), (2, .int (vI l2)), (3, .int (vI l3))] [] := by
    intro n
    induction n with
    | zero => intro l2 l3 h; exact no_h h
    | succ n ih4 =>
      intro l2 l3 h
      replace h : F_X6_trapIn_b4_body mod_places mod_firings mod_weights (F_X6_trapIn_b4 mod_places mod_firings mod_weights n) l2 l3 = some res := h
      generalize F_X6_trapIn_b4 mod_places mod_firings mod_weights n = ag4 at ih4 h
      have J13 : ∀ (n : Nat) (l2 : Int) (l3 : Int) (l4 : Int), F_X6_trapIn_b13 mod_places mod_firings mod_weights ag4 n l2 l3 l4 = some res → J p l e ({ frames := 2, cells := 0, slots := 0, locals := 48 } : Room) s m args below meth c D A 7 Q 0 0 (mW b gm mod_thrown mod_places mod_firings mod_fired mod_logged mod_tokens mod_weights mod_logs mod_marks mod_whence mod_by mod_leads mod_comes mod_costs mod_next mod_found) 13 [(0, .ref (b 0)), (2, .int (vI l2)), (3, .int (vI l3)), (4, .int (vI l4))] [] := by
        intro n
        induction n with
        | zero => intro l2 l3 l4 h; exact no_h h
        | succ n ih13 =>
          intro l2 l3 l4 h
          replace h : F_X6_trapIn_b13_body mod_places mod_firings mod_weights ag4 (F_X6_trapIn_b13 mod_places mod_firings mod_weights ag4 n) l2 l3 l4 = some res := h
          generalize F_X6_trapIn_b13 mod_places mod_firings mod_weights ag4 n = ag13 at ih13 h
          have J92 : ∀ (l2 : Int) (l3 : Int) (l4 : Int), F_X6_trapIn_b92 mod_places mod_firings mod_weights ag4 ag13 l2 l3 l4 = some res → J p l e ({ frames := 2, cells := 0, slots := 0, locals := 48 } : Room) s m args below meth c D A 7 Q 0 0 (mW b gm mod_thrown mod_places mod_firings mod_fired mod_logged mod_tokens mod_weights mod_logs mod_marks mod_whence mod_by mod_leads mod_comes mod_costs mod_next mod_found) 92 [(0, .ref (b 0)), (2, .int (vI l2)), (3, .int (vI l3)), (4, .int (vI l4))] [] := by
            intro l2 l3 l4 h
            unfold F_X6_trapIn_b92 at h
            refine j_iinc C 3 rfl (fun v => [(4, .int (vI v)), (0, .ref (b 0)), (2, .int (vI l2)), (3, .int (vI l3))]) (fun _ => rfl) (by decide) h dX6_trapIn_92 (fun v1 h => ?_)
            refine j_goto C 13 (by decide) dX6_trapIn_95 ?_
            refine j_lv [1, 2, 3, 0] rfl ?_
            exact ih13 l2 l3 v1 h
          have J35 : ∀ (n : Nat) (l2 : Int) (l3 : Int) (l4 : Int) (l5 : Int) (l6 : Int), F_X6_trapIn_b35 mod_places mod_firings mod_weights ag4 ag13 n l2 l3 l4 l5 l6 = some res → J p l e ({ frames := 2, cells := 0, slots := 0, locals := 48 } : Room) s m args below meth c D A 7 Q 0 0 (mW b gm mod_thrown mod_places mod_firings mod_fired mod_logged mod_tokens mod_weights mod_logs mod_marks mod_whence mod_by mod_leads mod_comes mod_costs mod_next mod_found) 35 [(0, .ref (b 0)), (2, .int (vI l2)), (3, .int (vI l3)), (4, .int (vI l4)), (5, .int (vI l5)), (6, .int (vI l6))] [] := by
            intro n
            induction n with
            | zero => intro l2 l3 l4 l5 l6 h; exact no_h h
            | succ n ih35 =>
              intro l2 l3 l4 l5 l6 h
              replace h : F_X6_trapIn_b35_body mod_places mod_firings mod_weights ag4 ag13 (F_X6_trapIn_b35 mod_places mod_firings mod_weights ag4 ag13 n) l2 l3 l4 l5 l6 = some res := h
              generalize F_X6_trapIn_b35 mod_places mod_firings mod_weights ag4 ag13 n = ag35 at ih35 h
              have J84 : ∀ (l3 : Int) (l4 : Int) (l5 : Int) (l6 : Int) (s0 : Int) (s1 : Int), F_X6_trapIn_b84 mod_places mod_firings mod_weights ag4 ag13 ag35 l3 l4 l5 l6 s0 s1 = some res → J p l e ({ frames := 2, cells := 0, slots := 0, locals := 48 } : Room) s m args below meth c D A 7 Q 0 0 (mW b gm mod_thrown mod_places mod_firings mod_fired mod_logged mod_tokens mod_weights mod_logs mod_marks mod_whence mod_by mod_leads mod_comes mod_costs mod_next mod_found) 84 [(0, .ref (b 0)), (3, .int (vI l3)), (4, .int (vI l4)), (5, .int (vI l5)), (6, .int (vI l6))] [.int (vI s1), .int (vI s0)] := by
                intro l3 l4 l5 l6 s0 s1 h
                unfold F_X6_trapIn_b84 at h
                refine j_iand C dX6_trapIn_84 ?_
                refine j_nm h (fun v2 h => ?_)
                refine j_istore_n C [(2, .int (vI v2)), (0, .ref (b 0)), (3, .int (vI l3)), (4, .int (vI l4)), (5, .int (vI l5)), (6, .int (vI l6))] rfl rfl (by decide) dX6_trapIn_85 ?_
                refine j_iinc C 5 rfl (fun v => [(6, .int (vI v)), (2, .int (vI v2)), (0, .ref (b 0)), (3, .int (vI l3)), (4, .int (vI l4)), (5, .int (vI l5))]) (fun _ => rfl) (by decide) h dX6_trapIn_86 (fun v3 h => ?_)
                refine j_goto C 35 (by decide) dX6_trapIn_89 ?_
                refine j_lv [2, 1, 3, 4, 5, 0] rfl ?_
                exact ih35 v2 l3 l4 l5 v3 h
              have J74 : ∀ (l3 : Int) (l4 : Int) (l5 : Int) (l6 : Int) (s0 : Int), F_X6_trapIn_b74 mod_places mod_firings mod_weights ag4 ag13 ag35 l3 l4 l5 l6 s0 = some res → J p l e ({ frames := 2, cells := 0, slots := 0, locals := 48 } : Room) s m args below meth c D A 7 Q 0 0 (mW b gm mod_thrown mod_places mod_firings mod_fired mod_logged mod_tokens mod_weights mod_logs mod_marks mod_whence mod_by mod_leads mod_comes mod_costs mod_next mod_found) 74 [(0, .ref (b 0)), (3, .int (vI l3)), (4, .int (vI l4)), (5, .int (vI l5)), (6, .int (vI l6))] [.int (vI s0)] := by
                intro l3 l4 l5 l6 s0 h
                unfold F_X6_trapIn_b74 at h
                refine j_iconst C dX6_trapIn_74 ?_
                refine j_iload C 4 rfl dX6_trapIn_75 ?_
                refine j_ishl C dX6_trapIn_77 ?_
                refine j_iconst C dX6_trapIn_78 ?_
                refine j_ixor C dX6_trapIn_79 ?_
                refine j_goto C 84 (by decide) dX6_trapIn_80 ?_
                exact J84 l3 l4 l5 l6 s0 (iXor (iShl 1 l6) (-1)) h
              unfold F_X6_trapIn_b35_body at h
              refine j_iload C 5 rfl dX6_trapIn_35 ?_
              refine j_aload_n C 0 rfl rfl dX6_trapIn_37 ?_
              refine g_X6_48 C (v := .int (vI mod_places)) 0 rfl rfl dX6_trapIn_38 ?_
              refine j_icmp_ge C h 92 (by decide) dX6_trapIn_41 (fun c9 h => ?_) (fun c9 h => ?_)
              · refine j_lv [0, 1, 2, 3] rfl ?_
                exact J92 l2 l3 l4 h
              · refine j_iload C 4 rfl dX6_trapIn_44 ?_
                refine j_if_ne C h 92 (by decide) dX6_trapIn_46 (fun c8 h => ?_) (fun c8 h => ?_)
                · refine j_lv [0, 1, 2, 3] rfl ?_
                  exact J92 l2 l3 l4 h
                · refine j_iload_n C 1 rfl rfl dX6_trapIn_49 ?_
                  refine j_aload_n C 0 rfl rfl dX6_trapIn_50 ?_
                  refine j_iconst C dX6_trapIn_51 ?_
                  refine j_iload C 3 rfl dX6_trapIn_52 ?_
                  refine j_iload C 5 rfl dX6_trapIn_54 ?_
                  obtain ⟨r4, hr4, h⟩ := Ob_of h
                  refine q_X6_68 C (wc := (mW b gm mod_thrown mod_places mod_firings mod_fired mod_logged mod_tokens mod_weights mod_logs mod_marks mod_whence mod_by mod_leads mod_comes mod_costs mod_next mod_found)) (wc' := (mW b gm mod_thrown mod_places mod_firings mod_fired mod_logged mod_tokens mod_weights mod_logs mod_marks mod_whence mod_by mod_leads mod_comes mod_costs mod_next mod_found)) (c_X6_weight l D b gm mod_thrown mod_places mod_firings mod_fired mod_logged mod_tokens mod_weights mod_logs mod_marks mod_whence mod_by mod_leads mod_comes mod_costs mod_next mod_found 0 l4 l6 r4 hr4) ⟨(Nat.le_of_ble_eq_true rfl), (Nat.le_of_ble_eq_true rfl)⟩ rfl rfl 0 rfl rfl (ww _) (ww _) rfl C.2.2.2.2.2.2.1 (Nat.le_of_ble_eq_true rfl) rfl rfl (Nat.zero_le _) (Nat.zero_le _) dX6_trapIn_56 ?_
                  refine j_if_gt C h 74 (by decide) dX6_trapIn_59 (fun c7 h => ?_) (fun c7 h => ?_)
                  · refine j_lv [0, 2, 3, 4, 5] rfl ?_
                    exact J74 l3 l4 l5 l6 l2 h
                  · refine j_aload_n C 0 rfl rfl dX6_trapIn_62 ?_
                    refine j_iconst C dX6_trapIn_63 ?_
                    refine j_iload C 3 rfl dX6_trapIn_64 ?_
                    refine j_iload C 5 rfl dX6_trapIn_66 ?_
                    obtain ⟨r5, hr5, h⟩ := Ob_of h
                    refine q_X6_68 C (wc := (mW b gm mod_thrown mod_places mod_firings mod_fired mod_logged mod_tokens mod_weights mod_logs mod_marks mod_whence mod_by mod_leads mod_comes mod_costs mod_next mod_found)) (wc' := (mW b gm mod_thrown mod_places mod_firings mod_fired mod_logged mod_tokens mod_weights mod_logs mod_marks mod_whence mod_by mod_leads mod_comes mod_costs mod_next mod_found)) (c_X6_weight l D b gm mod_thrown mod_places mod_firings mod_fired mod_logged mod_tokens mod_weights mod_logs mod_marks mod_whence mod_by mod_leads mod_comes mod_costs mod_next mod_found 4 l4 l6 r5 hr5) ⟨(Nat.le_of_ble_eq_true rfl), (Nat.le_of_ble_eq_true rfl)⟩ rfl rfl 0 rfl rfl (ww _) (ww _) rfl C.2.2.2.2.2.2.1 (Nat.le_of_ble_eq_true rfl) rfl rfl (Nat.zero_le _) (Nat.zero_le _) dX6_trapIn_68 ?_
                    refine j_if_le C h 83 (by decide) dX6_trapIn_71 (fun c6 h => ?_) (fun c6 h => ?_)
                    · refine j_iconst C dX6_trapIn_83 ?_
                      refine j_lv [0, 2, 3, 4, 5] rfl ?_
                      exact J84 l3 l4 l5 l6 l2 (-1) h
                    · refine j_lv [0, 2, 3, 4, 5] rfl ?_
                      exact J74 l3 l4 l5 l6 l2 h
          unfold F_X6_trapIn_b13_body at h
          refine j_iload C 3 rfl dX6_trapIn_13 ?_
          refine j_aload_n C 0 rfl rfl dX6_trapIn_15 ?_
          refine g_X6_55 C (v := .int (vI mod_firings)) 0 rfl rfl dX6_trapIn_16 ?_
          refine j_icmp_ge C h 98 (by decide) dX6_trapIn_19 (fun c12 h => ?_) (fun c12 h => ?_)
          · refine j_iinc C 2 rfl (fun v => [(3, .int (vI v)), (0, .ref (b 0)), (2, .int (vI l2)), (4, .int (vI l4))]) (fun _ => rfl) (by decide) h dX6_trapIn_98 (fun v10 h => ?_)
            refine j_goto C 4 (by decide) dX6_trapIn_101 ?_
            refine j_lv [1, 2, 0] rfl ?_
            exact ih4 l2 v10 h
          · refine j_aload_n C 0 rfl rfl dX6_trapIn_22 ?_
            refine j_iconst C dX6_trapIn_23 ?_
            refine j_iload C 3 rfl dX6_trapIn_24 ?_
            refine j_iload_n C 1 rfl rfl dX6_trapIn_26 ?_
            obtain ⟨r11, hr11, h⟩ := Ob_of h
            refine q_X6_142 C (wc := (mW b gm mod_thrown mod_places mod_firings mod_fired mod_logged mod_tokens mod_weights mod_logs mod_marks mod_whence mod_by mod_leads mod_comes mod_costs mod_next mod_found)) (wc' := (mW b gm mod_thrown mod_places mod_firings mod_fired mod_logged mod_tokens mod_weights mod_logs mod_marks mod_whence mod_by mod_leads mod_comes mod_costs mod_next mod_found)) (c_X6_touches l D b gm mod_thrown mod_places mod_firings mod_fired mod_logged mod_tokens mod_weights mod_logs mod_marks mod_whence mod_by mod_leads mod_comes mod_costs mod_next mod_found 1 l4 l2 r11 hr11) ⟨(Nat.le_of_ble_eq_true rfl), (Nat.le_of_ble_eq_true rfl)⟩ rfl rfl 0 rfl rfl (ww _) (ww _) rfl C.2.2.2.2.2.2.1 (Nat.le_of_ble_eq_true rfl) rfl rfl (Nat.zero_le _) (Nat.zero_le _) dX6_trapIn_27 ?_
            refine j_istore C [(5, .int (vI r11)), (0, .ref (b 0)), (2, .int (vI l2)), (3, .int (vI l3)), (4, .int (vI l4))] rfl (by decide) dX6_trapIn_30 ?_
            refine j_iconst C dX6_trapIn_32 ?_
            refine j_istore C [(6, .int (vI 0)), (5, .int (vI r11)), (0, .ref (b 0)), (2, .int (vI l2)), (3, .int (vI l3)), (4, .int (vI l4))] rfl (by decide) dX6_trapIn_33 ?_
            refine j_lv [2, 3, 4, 5, 1, 0] rfl ?_
            exact J35 NN l2 l3 l4 r11 0 h
      unfold F_X6_trapIn_b4_body at h
      refine j_iload_n C 2 rfl rfl dX6_trapIn_4 ?_
      refine j_bipush C (by decide) dX6_trapIn_5 ?_
      refine j_icmp_ge C h 104 (by decide) dX6_trapIn_7 (fun c13 h => ?_) (fun c13 h => ?_)
      · refine j_iload_n C 1 rfl rfl dX6_trapIn_104 ?_
        cases h
        exact RET _ _ dX6_trapIn_105
      · refine j_iconst C dX6_trapIn_10 ?_
        refine j_istore C [(4, .int (vI 0)), (0, .ref (b 0)), (2, .int (vI l2)), (3, .int (vI l3))] rfl (by decide) dX6_trapIn_11 ?_
        refine j_lv [1, 2, 3, 0] rfl ?_
        exact J13 NN l2 l3 0 h
  unfold F_X6_trapIn at h
  refine j_iload_n C 1 rfl rfl dX6_trapIn_0 ?_
  refine j_istore_n C [(2, .int (vI x1)), (0, .ref (b 0)), (1, .int (vI x1))] rfl rfl (by decide) dX6_trapIn_1 ?_
  refine j_iconst C dX6_trapIn_2 ?_
  refine j_istore_n C [(3, .int (vI 0)), (2, .int (vI x1)), (0, .ref (b 0)), (1, .int (vI x1))] rfl rfl (by decide) dX6_trapIn_3 ?_
  refine j_lv [2, 1, 0] rfl ?_
  exact J4 NN x1 0 h
theorem c_X6_trapIn (l : Launch) (D : va_G) (b : Nat → Nat) (gm : Nat → ClassId) (mod_thrown : Int) (mod_places : Int) (mod_firings : Int) (mod_fired : Int) (mod_logged : Int) (mod_tokens : Nat → Int) (mod_weights : Nat → Int) (mod_logs : Nat → Int) (mod_marks : Nat → Int) (mod_whence : Nat → Int) (mod_by : Nat → Int) (mod_leads : Nat → Int) (mod_comes : Nat → Int) (mod_costs : Nat → Int) (mod_next : Nat → Int) (mod_found : Nat → Int) (x1 : Int) (res : Int) (h : F_X6_trapIn x1 mod_places mod_firings mod_weights = some res) : Kt l yX6_trapIn cX6_trapIn 7 (some .int) ({ frames := 2, cells := 0, slots := 0, locals := 48 } : Room) D (mT gm) [.ref (b 0), .int (vI x1)] (mW b gm mod_thrown mod_places mod_firings mod_fired mod_logged mod_tokens mod_weights mod_logs mod_marks mod_whence mod_by mod_leads mod_comes mod_costs mod_next mod_found) (mW b gm mod_thrown mod_places mod_firings mod_fired mod_logged mod_tokens mod_weights mod_logs mod_marks mod_whence mod_by mod_leads mod_comes mod_costs mod_next mod_found) (some (.int (vI res))) :=
  kt_i (ty := .int) rfl rfl (by decide +kernel) (Nat.le_of_ble_eq_true rfl) (fun C RET => k_X6_trapIn C x1 res h RET)
set_option maxRecDepth 100000 in
set_option maxHeartbeats 4000000 in
theorem k_X6_trap {b : Nat → Nat} {gm : Nat → ClassId} {mod_thrown : Int} {mod_places : Int} {mod_firings : Int} {mod_fired : Int} {mod_logged : Int} {mod_tokens : Nat → Int} {mod_weights : Nat → Int} {mod_logs : Nat → Int} {mod_marks : Nat → Int} {mod_whence : Nat → Int} {mod_by : Nat → Int} {mod_leads : Nat → Int} {mod_comes : Nat → Int} {mod_costs : Nat → Int} {mod_next : Nat → Int} {mod_found : Nat → Int} (C : JC p s m args meth c cX6_trap 2 "MarkingHallModel" D (mT gm) A) (x1 : Int) (res : Int × (Int)) (h : F_X6_trap x1 mod_places mod_firings mod_weights mod_thrown = some res) (RET : ∀ (pc : Nat) (lv : List (Nat × Value)), decode cX6_trap pc = .ok (.ireturn, 1) → J p l e ({ frames := 3, cells := 0, slots := 0, locals := 74 } : Room) s m args below meth c D A 2 Q 0 0 (mW b gm res.2 mod_places mod_firings mod_fired mod_logged mod_tokens mod_weights mod_logs mod_marks mod_whence mod_by mod_leads mod_comes mod_costs mod_next mod_found) pc lv [.int (vI res.1)]) : J p l e ({ frames := 3, cells := 0, slots := 0, locals := 74 } : Room) s m args below meth c D A 2 Q 0 0 (mW b gm mod_thrown mod_places mod_firings mod_fired mod_logged mod_tokens mod_weights mod_logs mod_marks mod_whence mod_by mod_leads mod_comes mod_costs mod_next mod_found) 0 [(0, .ref (b 0)), (1, .int (vI x1))] [] := by
  have J22 : ∀ (l1 : Int) (s1 : Int) (mod_thrown : Int), F_X6_trap_b22 mod_places mod_firings mod_weights l1 s1 mod_thrown = some res → J p l e ({ frames := 3, cells := 0, slots := 0, locals := 74 } : Room) s m args below meth c D A 2 Q 0 0 (mW b gm mod_thrown mod_places mod_firings mod_fired mod_logged mod_tokens mod_weights mod_logs mod_marks mod_whence mod_by mod_leads mod_comes mod_costs mod_next mod_found) 22 [(0, .ref (b 0)), (1, .int (vI l1))] [.int (vI s1), .ref (b 0)] := by
    intro l1 s1 mod_thrown h
    unfold F_X6_trap_b22 at h
    obtain ⟨r1, hr1, h⟩ := Ob_of h
    refine q_X6_58 C (wc := (mW b gm mod_thrown mod_places mod_firings mod_fired mod_logged mod_tokens mod_weights mod_logs mod_marks mod_whence mod_by mod_leads mod_comes mod_costs mod_next mod_found)) (wc' := (mW b gm r1.2 mod_places mod_firings mod_fired mod_logged mod_tokens mod_weights mod_logs mod_marks mod_whence mod_by mod_leads mod_comes mod_costs mod_next mod_found)) (c_X6_goesWell l D b gm mod_thrown mod_places mod_firings mod_fired mod_logged mod_tokens mod_weights mod_logs mod_marks mod_whence mod_by mod_leads mod_comes mod_costs mod_next mod_found s1 r1 hr1) ⟨(Nat.le_of_ble_eq_true rfl), (Nat.le_of_ble_eq_true rfl)⟩ rfl rfl 0 rfl rfl (ww _) (ww _) mW_ha C.2.2.2.2.2.2.1 (Nat.le_of_ble_eq_true rfl) rfl rfl (Nat.zero_le _) (Nat.zero_le _) dX6_trap_22 ?_
    refine j_if_eq C h 36 (by decide) dX6_trap_25 (fun c3 h => ?_) (fun c3 h => ?_)
    · refine j_iconst C dX6_trap_36 ?_
      cases h
      exact RET _ _ dX6_trap_37
    · refine j_aload_n C 0 rfl rfl dX6_trap_28 ?_
      refine j_iload_n C 1 rfl rfl dX6_trap_29 ?_
      obtain ⟨r2, hr2, h⟩ := Ob_of h
      refine q_X6_151 C (wc := (mW b gm r1.2 mod_places mod_firings mod_fired mod_logged mod_tokens mod_weights mod_logs mod_marks mod_whence mod_by mod_leads mod_comes mod_costs mod_next mod_found)) (wc' := (mW b gm r1.2 mod_places mod_firings mod_fired mod_logged mod_tokens mod_weights mod_logs mod_marks mod_whence mod_by mod_leads mod_comes mod_costs mod_next mod_found)) (c_X6_trapIn l D b gm r1.2 mod_places mod_firings mod_fired mod_logged mod_tokens mod_weights mod_logs mod_marks mod_whence mod_by mod_leads mod_comes mod_costs mod_next mod_found l1 r2 hr2) ⟨(Nat.le_of_ble_eq_true rfl), (Nat.le_of_ble_eq_true rfl)⟩ rfl rfl 0 rfl rfl (ww _) (ww _) rfl C.2.2.2.2.2.2.1 (Nat.le_of_ble_eq_true rfl) rfl rfl (Nat.zero_le _) (Nat.zero_le _) dX6_trap_30 ?_
      refine j_goto C 37 (by decide) dX6_trap_33 ?_
      cases h
      exact RET _ _ dX6_trap_37
  unfold F_X6_trap at h
  refine j_aload_n C 0 rfl rfl dX6_trap_0 ?_
  refine j_iload_n C 1 rfl rfl dX6_trap_1 ?_
  refine j_iconst C dX6_trap_2 ?_
  refine j_iconst C dX6_trap_3 ?_
  refine j_aload_n C 0 rfl rfl dX6_trap_4 ?_
  refine g_X6_48 C (v := .int (vI mod_places)) 0 rfl rfl dX6_trap_5 ?_
  refine j_ishl C dX6_trap_8 ?_
  refine j_iconst C dX6_trap_9 ?_
  refine j_isub C dX6_trap_10 ?_
  obtain ⟨r4, hr4, h⟩ := Ob_of h
  refine q_X6_51 C (wc := (mW b gm mod_thrown mod_places mod_firings mod_fired mod_logged mod_tokens mod_weights mod_logs mod_marks mod_whence mod_by mod_leads mod_comes mod_costs mod_next mod_found)) (wc' := (mW b gm mod_thrown mod_places mod_firings mod_fired mod_logged mod_tokens mod_weights mod_logs mod_marks mod_whence mod_by mod_leads mod_comes mod_costs mod_next mod_found)) (c_X6_in l D _ _ x1 0 ((iShl 1 mod_places) - 1) r4 hr4) ⟨(Nat.le_of_ble_eq_true rfl), (Nat.le_of_ble_eq_true rfl)⟩ rfl rfl rfl (ww _) (ww _) rfl C.2.2.2.2.2.2.1 (Nat.le_of_ble_eq_true rfl) rfl rfl (Nat.zero_le _) (Nat.zero_le _) dX6_trap_11 ?_
  refine j_if_eq C h 21 (by decide) dX6_trap_14 (fun c5 h => ?_) (fun c5 h => ?_)
  · refine j_iconst C dX6_trap_21 ?_
    exact J22 x1 1 mod_thrown h
  · refine j_iconst C dX6_trap_17 ?_
    refine j_goto C 22 (by decide) dX6_trap_18 ?_
    exact J22 x1 0 mod_thrown h
theorem c_X6_trap (l : Launch) (D : va_G) (b : Nat → Nat) (gm : Nat → ClassId) (mod_thrown : Int) (mod_places : Int) (mod_firings : Int) (mod_fired : Int) (mod_logged : Int) (mod_tokens : Nat → Int) (mod_weights : Nat → Int) (mod_logs : Nat → Int) (mod_marks : Nat → Int) (mod_whence : Nat → Int) (mod_by : Nat → Int) (mod_leads : Nat → Int) (mod_comes : Nat → Int) (mod_costs : Nat → Int) (mod_next : Nat → Int) (mod_found : Nat → Int) (x1 : Int) (res : Int × (Int)) (h : F_X6_trap x1 mod_places mod_firings mod_weights mod_thrown = some res) : Kt l yX6_trap cX6_trap 2 (some .int) ({ frames := 3, cells := 0, slots := 0, locals := 74 } : Room) D (mT gm) [.ref (b 0), .int (vI x1)] (mW b gm mod_thrown mod_places mod_firings mod_fired mod_logged mod_tokens mod_weights mod_logs mod_marks mod_whence mod_by mod_leads mod_comes mod_costs mod_next mod_found) (mW b gm res.2 mod_places mod_firings mod_fired mod_logged mod_tokens mod_weights mod_logs mod_marks mod_whence mod_by mod_leads mod_comes mod_costs mod_next mod_found) (some (.int (vI res.1))) :=
  kt_i (ty := .int) rfl rfl (by decide +kernel) (Nat.le_of_ble_eq_true rfl) (fun C RET => k_X6_trap C x1 res h RET)
set_option maxRecDepth 100000 in
set_option maxHeartbeats 4000000 in
theorem k_X6_isPromising {b : Nat → Nat} {gm : Nat → ClassId} {mod_thrown : Int} {mod_places : Int} {mod_firings : Int} {mod_fired : Int} {mod_logged : Int} {mod_tokens : Nat → Int} {mod_weights : Nat → Int} {mod_logs : Nat → Int} {mod_marks : Nat → Int} {mod_whence : Nat → Int} {mod_by : Nat → Int} {mod_leads : Nat → Int} {mod_comes : Nat → Int} {mod_costs : Nat → Int} {mod_next : Nat → Int} {mod_found : Nat → Int} (C : JC p s m args meth c cX6_isPromising 7 "MarkingHallModel" D (mT gm) A)  (res : Int × (Int) × (Nat → Int)) (h : F_X6_isPromising mod_places mod_firings mod_tokens mod_weights mod_thrown mod_found = some res) (RET : ∀ (pc : Nat) (lv : List (Nat × Value)), (res.1 = 0 ∨ res.1 = 1) → decode cX6_isPromising pc = .ok (.ireturn, 1) → J p l e ({ frames := 4, cells := 0, slots := 0, locals := 95 } : Room) s m args below meth c D A 7 Q 0 0 (mW b gm res.2.1 mod_places mod_firings mod_fired mod_logged mod_tokens mod_weights mod_logs mod_marks mod_whence mod_by mod_leads mod_comes mod_costs mod_next res.2.2) pc lv [.int (vI res.1)]) : J p l e ({ frames := 4, cells := 0, slots := 0, locals := 95 } : Room) s m args below meth c D A 7 Q 0 0 (mW b gm mod_thrown mod_places mod_firings mod_fired mod_logged mod_tokens mod_weights mod_logs mod_marks mod_whence mod_by mod_leads mod_comes mod_costs mod_next mod_found) 0 [(0, .ref (b 0))] [] := by
  have J14 : ∀ (n : Nat) (l1 : Int) (l2 : Int) (l3 : Int) (mod_thrown : Int) (mod_found : Nat → Int), F_X6_isPromising_b14 mod_places mod_firings mod_tokens mod_weights n l1 l2 l3 mod_thrown mod_found = some res → J p l e ({ frames := 4, cells := 0, slots := 0, locals := 95 } : Room) s m args below meth c D A 7 Q 0 0 (mW b gm mod_thrown mod_places mod_firings mod_fired mod_logged mod_tokens mod_weights mod_logs mod_marks mod_whence mod_by mod_leads mod_comes mod_costs mod_next mod_found) 14 [(0, .ref (b 0)), (1, .int (vI l1)), (2, .int (vI l2)), (3, .int (vI l3))] [] := by
    intro n
    induction n with
    | zero => intro l1 l2 l3 mod_thrown mod_found h; exact no_h h
    | succ n ih14 =>
      intro l1 l2 l3 mod_thrown mod_found h
      replace h : F_X6_isPromising_b14_body mod_places mod_firings mod_tokens mod_weights (F_X6_isPromising_b14 mod_places mod_firings mod_tokens mod_weights n) l1 l2 l3 mod_thrown mod_found = some res := h
      generalize F_X6_isPromising_b14 mod_places mod_firings mod_tokens mod_weights n = ag14 at ih14 h
      have J99 : ∀ (l1 : Int) (l3 : Int) (s0 : Int) (mod_thrown : Int) (mod_found : Nat → Int), F_X6_isPromising_b99 mod_places mod_firings mod_tokens mod_weights ag14 l1 l3 s0 mod_thrown mod_found = some res → J p l e ({ frames := 4, cells := 0, slots := 0, locals := 95 } : Room) s m args below meth c D A 7 Q 0 0 (mW b gm mod_thrown mod_places mod_firings mod_fired mod_logged mod_tokens mod_weights mod_logs mod_marks mod_whence mod_by mod_leads mod_comes mod_costs mod_next mod_found) 99 [(0, .ref (b 0)), (1, .int (vI l1)), (3, .int (vI l3))] [.int (vI s0)] := by
        intro l1 l3 s0 mod_thrown mod_found h
        unfold F_X6_isPromising_b99 at h
        refine j_istore_n C [(2, .int (vI s0)), (0, .ref (b 0)), (1, .int (vI l1)), (3, .int (vI l3))] rfl rfl (by decide) dX6_isPromising_99 ?_
        refine j_iinc C 3 rfl (fun v => [(3, .int (vI v)), (2, .int (vI s0)), (0, .ref (b 0)), (1, .int (vI l1))]) (fun _ => rfl) (by decide) h dX6_isPromising_100 (fun v1 h => ?_)
        refine j_goto C 14 (by decide) dX6_isPromising_103 ?_
        refine j_lv [2, 3, 1, 0] rfl ?_
        exact ih14 l1 s0 v1 mod_thrown mod_found h
      have J98 : ∀ (l1 : Int) (l3 : Int) (mod_thrown : Int) (mod_found : Nat → Int), F_X6_isPromising_b98 mod_places mod_firings mod_tokens mod_weights ag14 l1 l3 mod_thrown mod_found = some res → J p l e ({ frames := 4, cells := 0, slots := 0, locals := 95 } : Room) s m args below meth c D A 7 Q 0 0 (mW b gm mod_thrown mod_places mod_firings mod_fired mod_logged mod_tokens mod_weights mod_logs mod_marks mod_whence mod_by mod_leads mod_comes mod_costs mod_next mod_found) 98 [(0, .ref (b 0)), (1, .int (vI l1)), (3, .int (vI l3))] [] := by
        intro l1 l3 mod_thrown mod_found h
        unfold F_X6_isPromising_b98 at h
        refine j_iconst C dX6_isPromising_98 ?_
        exact J99 l1 l3 0 mod_thrown mod_found h
      have J37 : ∀ (n : Nat) (l1 : Int) (l2 : Int) (l3 : Int) (l4 : Int) (l5 : Int) (l6 : Int) (mod_thrown : Int) (mod_found : Nat → Int), F_X6_isPromising_b37 mod_places mod_firings mod_tokens mod_weights ag14 n l1 l2 l3 l4 l5 l6 mod_thrown mod_found = some res → J p l e ({ frames := 4, cells := 0, slots := 0, locals := 95 } : Room) s m args below meth c D A 7 Q 0 0 (mW b gm mod_thrown mod_places mod_firings mod_fired mod_logged mod_tokens mod_weights mod_logs mod_marks mod_whence mod_by mod_leads mod_comes mod_costs mod_next mod_found) 37 [(0, .ref (b 0)), (1, .int (vI l1)), (2, .int (vI l2)), (3, .int (vI l3)), (4, .int (vI l4)), (5, .int (vI l5)), (6, .int (vI l6))] [] := by
        intro n
        induction n with
        | zero => intro l1 l2 l3 l4 l5 l6 mod_thrown mod_found h; exact no_h h
        | succ n ih37 =>
          intro l1 l2 l3 l4 l5 l6 mod_thrown mod_found h
          replace h : F_X6_isPromising_b37_body mod_places mod_firings mod_tokens mod_weights ag14 (F_X6_isPromising_b37 mod_places mod_firings mod_tokens mod_weights ag14 n) l1 l2 l3 l4 l5 l6 mod_thrown mod_found = some res := h
          generalize F_X6_isPromising_b37 mod_places mod_firings mod_tokens mod_weights ag14 n = ag37 at ih37 h
          have J77 : ∀ (l1 : Int) (l2 : Int) (l3 : Int) (l4 : Int) (l6 : Int) (s0 : Int) (mod_thrown : Int) (mod_found : Nat → Int), F_X6_isPromising_b77 mod_places mod_firings mod_tokens mod_weights ag14 ag37 l1 l2 l3 l4 l6 s0 mod_thrown mod_found = some res → J p l e ({ frames := 4, cells := 0, slots := 0, locals := 95 } : Room) s m args below meth c D A 7 Q 0 0 (mW b gm mod_thrown mod_places mod_firings mod_fired mod_logged mod_tokens mod_weights mod_logs mod_marks mod_whence mod_by mod_leads mod_comes mod_costs mod_next mod_found) 77 [(0, .ref (b 0)), (1, .int (vI l1)), (2, .int (vI l2)), (3, .int (vI l3)), (4, .int (vI l4)), (6, .int (vI l6))] [.int (vI s0)] := by
            intro l1 l2 l3 l4 l6 s0 mod_thrown mod_found h
            unfold F_X6_isPromising_b77 at h
            refine j_istore C [(5, .int (vI s0)), (0, .ref (b 0)), (1, .int (vI l1)), (2, .int (vI l2)), (3, .int (vI l3)), (4, .int (vI l4)), (6, .int (vI l6))] rfl (by decide) dX6_isPromising_77 ?_
            refine j_iinc C 6 rfl (fun v => [(6, .int (vI v)), (5, .int (vI s0)), (0, .ref (b 0)), (1, .int (vI l1)), (2, .int (vI l2)), (3, .int (vI l3)), (4, .int (vI l4))]) (fun _ => rfl) (by decide) h dX6_isPromising_79 (fun v2 h => ?_)
            refine j_goto C 37 (by decide) dX6_isPromising_82 ?_
            refine j_lv [2, 3, 4, 5, 6, 1, 0] rfl ?_
            exact ih37 l1 l2 l3 l4 s0 v2 mod_thrown mod_found h
          have J76 : ∀ (l1 : Int) (l2 : Int) (l3 : Int) (l4 : Int) (l6 : Int) (mod_thrown : Int) (mod_found : Nat → Int), F_X6_isPromising_b76 mod_places mod_firings mod_tokens mod_weights ag14 ag37 l1 l2 l3 l4 l6 mod_thrown mod_found = some res → J p l e ({ frames := 4, cells := 0, slots := 0, locals := 95 } : Room) s m args below meth c D A 7 Q 0 0 (mW b gm mod_thrown mod_places mod_firings mod_fired mod_logged mod_tokens mod_weights mod_logs mod_marks mod_whence mod_by mod_leads mod_comes mod_costs mod_next mod_found) 76 [(0, .ref (b 0)), (1, .int (vI l1)), (2, .int (vI l2)), (3, .int (vI l3)), (4, .int (vI l4)), (6, .int (vI l6))] [] := by
            intro l1 l2 l3 l4 l6 mod_thrown mod_found h
            unfold F_X6_isPromising_b76 at h
            refine j_iconst C dX6_isPromising_76 ?_
            exact J77 l1 l2 l3 l4 l6 0 mod_thrown mod_found h
          have J72 : ∀ (l1 : Int) (l2 : Int) (l3 : Int) (l4 : Int) (l6 : Int) (mod_thrown : Int) (mod_found : Nat → Int), F_X6_isPromising_b72 mod_places mod_firings mod_tokens mod_weights ag14 ag37 l1 l2 l3 l4 l6 mod_thrown mod_found = some res → J p l e ({ frames := 4, cells := 0, slots := 0, locals := 95 } : Room) s m args below meth c D A 7 Q 0 0 (mW b gm mod_thrown mod_places mod_firings mod_fired mod_logged mod_tokens mod_weights mod_logs mod_marks mod_whence mod_by mod_leads mod_comes mod_costs mod_next mod_found) 72 [(0, .ref (b 0)), (1, .int (vI l1)), (2, .int (vI l2)), (3, .int (vI l3)), (4, .int (vI l4)), (6, .int (vI l6))] [] := by
            intro l1 l2 l3 l4 l6 mod_thrown mod_found h
            unfold F_X6_isPromising_b72 at h
            refine j_iconst C dX6_isPromising_72 ?_
            refine j_goto C 77 (by decide) dX6_isPromising_73 ?_
            exact J77 l1 l2 l3 l4 l6 1 mod_thrown mod_found h
          unfold F_X6_isPromising_b37_body at h
          refine j_iload C 6 rfl dX6_isPromising_37 ?_
          refine j_aload_n C 0 rfl rfl dX6_isPromising_39 ?_
          refine g_X6_48 C (v := .int (vI mod_places)) 0 rfl rfl dX6_isPromising_40 ?_
          refine j_icmp_ge C h 85 (by decide) dX6_isPromising_43 (fun c10 h => ?_) (fun c10 h => ?_)
          · refine j_iload_n C 2 rfl rfl dX6_isPromising_85 ?_
            refine j_if_eq C h 98 (by decide) dX6_isPromising_86 (fun c4 h => ?_) (fun c4 h => ?_)
            · refine j_lv [0, 1, 3] rfl ?_
              exact J98 l1 l3 mod_thrown mod_found h
            · refine j_iload C 5 rfl dX6_isPromising_89 ?_
              refine j_if_eq C h 98 (by decide) dX6_isPromising_91 (fun c3 h => ?_) (fun c3 h => ?_)
              · refine j_lv [0, 1, 3] rfl ?_
                exact J98 l1 l3 mod_thrown mod_found h
              · refine j_iconst C dX6_isPromising_94 ?_
                refine j_goto C 99 (by decide) dX6_isPromising_95 ?_
                refine j_lv [0, 1, 3] rfl ?_
                exact J99 l1 l3 1 mod_thrown mod_found h
          · refine j_iload C 5 rfl dX6_isPromising_46 ?_
            refine j_if_ne C h 72 (by decide) dX6_isPromising_48 (fun c9 h => ?_) (fun c9 h => ?_)
            · refine j_lv [0, 1, 2, 3, 4, 6] rfl ?_
              exact J72 l1 l2 l3 l4 l6 mod_thrown mod_found h
            · refine j_iload C 4 rfl dX6_isPromising_51 ?_
              refine j_iload C 6 rfl dX6_isPromising_53 ?_
              refine j_ishr C dX6_isPromising_55 ?_
              refine j_iconst C dX6_isPromising_56 ?_
              refine j_iand C dX6_isPromising_57 ?_
              refine j_iconst C dX6_isPromising_58 ?_
              refine j_nm2 h (fun v5 h => ?_)
              refine j_icmp_ne C h 76 (by decide) dX6_isPromising_59 (fun c8 h => ?_) (fun c8 h => ?_)
              · refine j_lv [0, 1, 2, 3, 4, 6] rfl ?_
                exact J76 l1 l2 l3 l4 l6 mod_thrown mod_found h
              · refine j_aload_n C 0 rfl rfl dX6_isPromising_62 ?_
                refine g_X6_7 C (v := .ref (b 1)) 0 rfl rfl dX6_isPromising_63 ?_
                refine j_iload C 6 rfl dX6_isPromising_66 ?_
                refine j_iald C 1 0 rfl rfl (Nat.le_of_ble_eq_true rfl) h dX6_isPromising_68 (fun v6 h => ?_)
                refine j_if_le C h 76 (by decide) dX6_isPromising_69 (fun c7 h => ?_) (fun c7 h => ?_)
                · refine j_lv [0, 1, 2, 3, 4, 6] rfl ?_
                  exact J76 l1 l2 l3 l4 l6 mod_thrown mod_found h
                · refine j_lv [0, 1, 2, 3, 4, 6] rfl ?_
                  exact J72 l1 l2 l3 l4 l6 mod_thrown mod_found h
      unfold F_X6_isPromising_b14_body at h
      refine j_iload_n C 3 rfl rfl dX6_isPromising_14 ?_
      refine j_iload_n C 1 rfl rfl dX6_isPromising_15 ?_
      refine j_icmp_ge C h 106 (by decide) dX6_isPromising_16 (fun c14 h => ?_) (fun c14 h => ?_)
      · refine j_iload_n C 2 rfl rfl dX6_isPromising_106 ?_
        obtain ⟨hz11, h⟩ := G_of h
        cases h
        exact RET _ _ hz11 dX6_isPromising_107
      · refine j_aload_n C 0 rfl rfl dX6_isPromising_19 ?_
        refine j_aload_n C 0 rfl rfl dX6_isPromising_20 ?_
        refine g_X6_41 C (v := .ref (b 11)) 0 rfl rfl dX6_isPromising_21 ?_
        refine j_iload_n C 3 rfl rfl dX6_isPromising_24 ?_
        refine j_iald C 11 10 rfl rfl (Nat.le_of_ble_eq_true rfl) h dX6_isPromising_25 (fun v12 h => ?_)
        obtain ⟨r13, hr13, h⟩ := Ob_of h
        refine q_X6_151 C (wc := (mW b gm mod_thrown mod_places mod_firings mod_fired mod_logged mod_tokens mod_weights mod_logs mod_marks mod_whence mod_by mod_leads mod_comes mod_costs mod_next mod_found)) (wc' := (mW b gm mod_thrown mod_places mod_firings mod_fired mod_logged mod_tokens mod_weights mod_logs mod_marks mod_whence mod_by mod_leads mod_comes mod_costs mod_next mod_found)) (c_X6_trapIn l D b gm mod_thrown mod_places mod_firings mod_fired mod_logged mod_tokens mod_weights mod_logs mod_marks mod_whence mod_by mod_leads mod_comes mod_costs mod_next mod_found v12 r13 hr13) ⟨(Nat.le_of_ble_eq_true rfl), (Nat.le_of_ble_eq_true rfl)⟩ rfl rfl 0 rfl rfl (ww _) (ww _) rfl C.2.2.2.2.2.2.1 (Nat.le_of_ble_eq_true rfl) rfl rfl (Nat.zero_le _) (Nat.zero_le _) dX6_isPromising_26 ?_
        refine j_istore C [(4, .int (vI r13)), (0, .ref (b 0)), (1, .int (vI l1)), (2, .int (vI l2)), (3, .int (vI l3))] rfl (by decide) dX6_isPromising_29 ?_
        refine j_iconst C dX6_isPromising_31 ?_
        refine j_istore C [(5, .int (vI 0)), (4, .int (vI r13)), (0, .ref (b 0)), (1, .int (vI l1)), (2, .int (vI l2)), (3, .int (vI l3))] rfl (by decide) dX6_isPromising_32 ?_
        refine j_iconst C dX6_isPromising_34 ?_
        refine j_istore C [(6, .int (vI 0)), (5, .int (vI 0)), (4, .int (vI r13)), (0, .ref (b 0)), (1, .int (vI l1)), (2, .int (vI l2)), (3, .int (vI l3))] rfl (by decide) dX6_isPromising_35 ?_
        refine j_lv [3, 4, 5, 6, 2, 1, 0] rfl ?_
        exact J37 NN l1 l2 l3 r13 0 0 mod_thrown mod_found h
  unfold F_X6_isPromising at h
  refine j_aload_n C 0 rfl rfl dX6_isPromising_0 ?_
  refine j_iconst C dX6_isPromising_1 ?_
  refine p_X6_44 C 0 rfl (Nat.le_of_ble_eq_true rfl) (mW b gm 0 mod_places mod_firings mod_fired mod_logged mod_tokens mod_weights mod_logs mod_marks mod_whence mod_by mod_leads mod_comes mod_costs mod_next mod_found) rfl dX6_isPromising_2 ?_
  refine j_aload_n C 0 rfl rfl dX6_isPromising_5 ?_
  obtain ⟨r15, hr15, h⟩ := Ob_of h
  refine q_X6_148 C (wc := (mW b gm 0 mod_places mod_firings mod_fired mod_logged mod_tokens mod_weights mod_logs mod_marks mod_whence mod_by mod_leads mod_comes mod_costs mod_next mod_found)) (wc' := (mW b gm 0 mod_places mod_firings mod_fired mod_logged mod_tokens mod_weights mod_logs mod_marks mod_whence mod_by mod_leads mod_comes mod_costs mod_next r15.2)) (c_X6_findSiphons l D b gm 0 mod_places mod_firings mod_fired mod_logged mod_tokens mod_weights mod_logs mod_marks mod_whence mod_by mod_leads mod_comes mod_costs mod_next mod_found r15 hr15) ⟨(Nat.le_of_ble_eq_true rfl), (Nat.le_of_ble_eq_true rfl)⟩ rfl rfl 0 rfl rfl (ww _) (ww _) mW_ha C.2.2.2.2.2.2.1 (Nat.le_of_ble_eq_true rfl) rfl rfl (Nat.zero_le _) (Nat.zero_le _) dX6_isPromising_6 ?_
  refine j_istore_n C [(1, .int (vI r15.1)), (0, .ref (b 0))] rfl rfl (by decide) dX6_isPromising_9 ?_
  refine j_iconst C dX6_isPromising_10 ?_
  refine j_istore_n C [(2, .int (vI 1)), (1, .int (vI r15.1)), (0, .ref (b 0))] rfl rfl (by decide) dX6_isPromising_11 ?_
  refine j_iconst C dX6_isPromising_12 ?_
  refine j_istore_n C [(3, .int (vI 0)), (2, .int (vI 1)), (1, .int (vI r15.1)), (0, .ref (b 0))] rfl rfl (by decide) dX6_isPromising_13 ?_
  refine j_lv [3, 2, 1, 0] rfl ?_
  exact J14 NN r15.1 1 0 0 r15.2 h
theorem c_X6_isPromising (l : Launch) (D : va_G) (b : Nat → Nat) (gm : Nat → ClassId) (mod_thrown : Int) (mod_places : Int) (mod_firings : Int) (mod_fired : Int) (mod_logged : Int) (mod_tokens : Nat → Int) (mod_weights : Nat → Int) (mod_logs : Nat → Int) (mod_marks : Nat → Int) (mod_whence : Nat → Int) (mod_by : Nat → Int) (mod_leads : Nat → Int) (mod_comes : Nat → Int) (mod_costs : Nat → Int) (mod_next : Nat → Int) (mod_found : Nat → Int)  (res : Int × (Int) × (Nat → Int)) (h : F_X6_isPromising mod_places mod_firings mod_tokens mod_weights mod_thrown mod_found = some res) : Kt l yX6_isPromising cX6_isPromising 7 (some .boolean) ({ frames := 4, cells := 0, slots := 0, locals := 95 } : Room) D (mT gm) [.ref (b 0)] (mW b gm mod_thrown mod_places mod_firings mod_fired mod_logged mod_tokens mod_weights mod_logs mod_marks mod_whence mod_by mod_leads mod_comes mod_costs mod_next mod_found) (mW b gm res.2.1 mod_places mod_firings mod_fired mod_logged mod_tokens mod_weights mod_logs mod_marks mod_whence mod_by mod_leads mod_comes mod_costs mod_next res.2.2) (some (.int (vI res.1))) :=
  kt_z rfl (by decide +kernel) (Nat.le_of_ble_eq_true rfl) (fun C RET => k_X6_isPromising C res h RET)
set_option maxRecDepth 100000 in
set_option maxHeartbeats 4000000 in
theorem k_X6_log {b : Nat → Nat} {gm : Nat → ClassId} {mod_thrown : Int} {mod_places : Int} {mod_firings : Int} {mod_fired : Int} {mod_logged : Int} {mod_tokens : Nat → Int} {mod_weights : Nat → Int} {mod_logs : Nat → Int} {mod_marks : Nat → Int} {mod_whence : Nat → Int} {mod_by : Nat → Int} {mod_leads : Nat → Int} {mod_comes : Nat → Int} {mod_costs : Nat → Int} {mod_next : Nat → Int} {mod_found : Nat → Int} (C : JC p s m args meth c cX6_log 3 "MarkingHallModel" D (mT gm) A) (x1 : Int) (res : Int × (Int) × (Int) × (Nat → Int)) (h : F_X6_log x1 mod_firings mod_thrown mod_logged mod_logs = some res) (RET : ∀ (pc : Nat) (lv : List (Nat × Value)), decode cX6_log pc = .ok (.ireturn, 1) → J p l e ({ frames := 2, cells := 0, slots := 0, locals := 43 } : Room) s m args below meth c D A 3 Q 0 0 (mW b gm res.2.1 mod_places mod_firings mod_fired res.2.2.1 mod_tokens mod_weights res.2.2.2 mod_marks mod_whence mod_by mod_leads mod_comes mod_costs mod_next mod_found) pc lv [.int (vI res.1)]) : J p l e ({ frames := 2, cells := 0, slots := 0, locals := 43 } : Room) s m args below meth c D A 3 Q 0 0 (mW b gm mod_thrown mod_places mod_firings mod_fired mod_logged mod_tokens mod_weights mod_logs mod_marks mod_whence mod_by mod_leads mod_comes mod_costs mod_next mod_found) 0 [(0, .ref (b 0)), (1, .int (vI x1))] [] := by
  have J29 : ∀ (l1 : Int) (s1 : Int) (mod_thrown : Int) (mod_logged : Int) (mod_logs : Nat → Int), F_X6_log_b29 mod_firings l1 s1 mod_thrown mod_logged mod_logs = some res → J p l e ({ frames := 2, cells := 0, slots := 0, locals := 43 } : Room) s m args below meth c D A 3 Q 0 0 (mW b gm mod_thrown mod_places mod_firings mod_fired mod_logged mod_tokens mod_weights mod_logs mod_marks mod_whence mod_by mod_leads mod_comes mod_costs mod_next mod_found) 29 [(0, .ref (b 0)), (1, .int (vI l1))] [.int (vI s1), .ref (b 0)] := by
    intro l1 s1 mod_thrown mod_logged mod_logs h
    unfold F_X6_log_b29 at h
    obtain ⟨r1, hr1, h⟩ := Ob_of h
    refine q_X6_58 C (wc := (mW b gm mod_thrown mod_places mod_firings mod_fired mod_logged mod_tokens mod_weights mod_logs mod_marks mod_whence mod_by mod_leads mod_comes mod_costs mod_next mod_found)) (wc' := (mW b gm r1.2 mod_places mod_firings mod_fired mod_logged mod_tokens mod_weights mod_logs mod_marks mod_whence mod_by mod_leads mod_comes mod_costs mod_next mod_found)) (c_X6_goesWell l D b gm mod_thrown mod_places mod_firings mod_fired mod_logged mod_tokens mod_weights mod_logs mod_marks mod_whence mod_by mod_leads mod_comes mod_costs mod_next mod_found s1 r1 hr1) ⟨(Nat.le_of_ble_eq_true rfl), (Nat.le_of_ble_eq_true rfl)⟩ rfl rfl 0 rfl rfl (ww _) (ww _) mW_ha C.2.2.2.2.2.2.1 (Nat.le_of_ble_eq_true rfl) rfl rfl (Nat.zero_le _) (Nat.zero_le _) dX6_log_29 ?_
    refine j_if_ne C h 37 (by decide) dX6_log_32 (fun c4 h => ?_) (fun c4 h => ?_)
    · refine j_aload_n C 0 rfl rfl dX6_log_37 ?_
      refine g_X6_16 C (v := .ref (b 3)) 0 rfl rfl dX6_log_38 ?_
      refine j_aload_n C 0 rfl rfl dX6_log_41 ?_
      refine g_X6_154 C (v := .int (vI mod_logged)) 0 rfl rfl dX6_log_42 ?_
      refine j_iload_n C 1 rfl rfl dX6_log_45 ?_
      refine j_iast C 3 2 rfl rfl (Nat.le_of_ble_eq_true rfl) (fun f' => (mW b gm r1.2 mod_places mod_firings mod_fired mod_logged mod_tokens mod_weights f' mod_marks mod_whence mod_by mod_leads mod_comes mod_costs mod_next mod_found)) (fun _ => rfl) h dX6_log_46 (fun f2 h => ?_)
      refine j_aload_n C 0 rfl rfl dX6_log_47 ?_
      refine j_dup C rfl dX6_log_48 ?_
      refine g_X6_154 C (v := .int (vI mod_logged)) 0 rfl rfl dX6_log_49 ?_
      refine j_iconst C dX6_log_52 ?_
      refine j_iadd C dX6_log_53 ?_
      refine j_nm h (fun v3 h => ?_)
      refine p_X6_154 C 0 rfl (Nat.le_of_ble_eq_true rfl) (mW b gm r1.2 mod_places mod_firings mod_fired v3 mod_tokens mod_weights f2 mod_marks mod_whence mod_by mod_leads mod_comes mod_costs mod_next mod_found) rfl dX6_log_54 ?_
      refine j_aload_n C 0 rfl rfl dX6_log_57 ?_
      refine g_X6_154 C (v := .int (vI v3)) 0 rfl rfl dX6_log_58 ?_
      cases h
      exact RET _ _ dX6_log_61
    · refine j_iconst C dX6_log_35 ?_
      cases h
      exact RET _ _ dX6_log_36
  unfold F_X6_log at h
  refine j_aload_n C 0 rfl rfl dX6_log_0 ?_
  refine j_iload_n C 1 rfl rfl dX6_log_1 ?_
  obtain ⟨r5, hr5, h⟩ := Ob_of h
  refine q_X6_62 C (wc := (mW b gm mod_thrown mod_places mod_firings mod_fired mod_logged mod_tokens mod_weights mod_logs mod_marks mod_whence mod_by mod_leads mod_comes mod_costs mod_next mod_found)) (wc' := (mW b gm mod_thrown mod_places mod_firings mod_fired mod_logged mod_tokens mod_weights mod_logs mod_marks mod_whence mod_by mod_leads mod_comes mod_costs mod_next mod_found)) (c_X6_isFiring l D b gm mod_thrown mod_places mod_firings mod_fired mod_logged mod_tokens mod_weights mod_logs mod_marks mod_whence mod_by mod_leads mod_comes mod_costs mod_next mod_found x1 r5 hr5) ⟨(Nat.le_of_ble_eq_true rfl), (Nat.le_of_ble_eq_true rfl)⟩ rfl rfl 0 rfl rfl (ww _) (ww _) rfl C.2.2.2.2.2.2.1 (Nat.le_of_ble_eq_true rfl) rfl rfl (Nat.zero_le _) (Nat.zero_le _) dX6_log_2 ?_
  refine j_istore_n C [(2, .int (vI r5)), (0, .ref (b 0)), (1, .int (vI x1))] rfl rfl (by decide) dX6_log_5 ?_
  refine j_aload_n C 1 rfl rfl dX6_log_6 ?_
  refine j_iload_n C 0 rfl rfl dX6_log_7 ?_
  refine j_if_ne C h 15 (by decide) dX6_log_8 (fun c7 h => ?_) (fun c7 h => ?_)
  · refine j_aload_n C 1 rfl rfl dX6_log_15 ?_
    refine g_X6_154 C (v := .int (vI mod_logged)) 0 rfl rfl dX6_log_16 ?_
    refine j_bipush C (by decide) dX6_log_19 ?_
    refine j_icmp_ne C h 28 (by decide) dX6_log_21 (fun c6 h => ?_) (fun c6 h => ?_)
    · refine j_iconst C dX6_log_28 ?_
      refine j_lv [1, 2] rfl ?_
      exact J29 x1 0 mod_thrown mod_logged mod_logs h
    · refine j_iconst C dX6_log_24 ?_
      refine j_goto C 29 (by decide) dX6_log_25 ?_
      refine j_lv [1, 2] rfl ?_
      exact J29 x1 2 mod_thrown mod_logged mod_logs h
  · refine j_iconst C dX6_log_11 ?_
    refine j_goto C 29 (by decide) dX6_log_12 ?_
    refine j_lv [1, 2] rfl ?_
    exact J29 x1 1 mod_thrown mod_logged mod_logs h
theorem c_X6_log (l : Launch) (D : va_G) (b : Nat → Nat) (gm : Nat → ClassId) (mod_thrown : Int) (mod_places : Int) (mod_firings : Int) (mod_fired : Int) (mod_logged : Int) (mod_tokens : Nat → Int) (mod_weights : Nat → Int) (mod_logs : Nat → Int) (mod_marks : Nat → Int) (mod_whence : Nat → Int) (mod_by : Nat → Int) (mod_leads : Nat → Int) (mod_comes : Nat → Int) (mod_costs : Nat → Int) (mod_next : Nat → Int) (mod_found : Nat → Int) (x1 : Int) (res : Int × (Int) × (Int) × (Nat → Int)) (h : F_X6_log x1 mod_firings mod_thrown mod_logged mod_logs = some res) : Kt l yX6_log cX6_log 3 (some .int) ({ frames := 2, cells := 0, slots := 0, locals := 43 } : Room) D (mT gm) [.ref (b 0), .int (vI x1)] (mW b gm mod_thrown mod_places mod_firings mod_fired mod_logged mod_tokens mod_weights mod_logs mod_marks mod_whence mod_by mod_leads mod_comes mod_costs mod_next mod_found) (mW b gm res.2.1 mod_places mod_firings mod_fired res.2.2.1 mod_tokens mod_weights res.2.2.2 mod_marks mod_whence mod_by mod_leads mod_comes mod_costs mod_next mod_found) (some (.int (vI res.1))) :=
  kt_i (ty := .int) rfl rfl (by decide +kernel) (Nat.le_of_ble_eq_true rfl) (fun C RET => k_X6_log C x1 res h RET)
set_option maxRecDepth 100000 in
set_option maxHeartbeats 4000000 in
theorem k_X6_blank {b : Nat → Nat} {gm : Nat → ClassId} {mod_thrown : Int} {mod_places : Int} {mod_firings : Int} {mod_fired : Int} {mod_logged : Int} {mod_tokens : Nat → Int} {mod_weights : Nat → Int} {mod_logs : Nat → Int} {mod_marks : Nat → Int} {mod_whence : Nat → Int} {mod_by : Nat → Int} {mod_leads : Nat → Int} {mod_comes : Nat → Int} {mod_costs : Nat → Int} {mod_next : Nat → Int} {mod_found : Nat → Int} (C : JC p s m args meth c cX6_blank 2 "MarkingHallModel" D (mT gm) A)  (res : Int × (Int) × (Int)) (h : F_X6_blank mod_thrown mod_logged = some res) (RET : ∀ (pc : Nat) (lv : List (Nat × Value)), decode cX6_blank pc = .ok (.ireturn, 1) → J p l e ({ frames := 0, cells := 0, slots := 0, locals := 0 } : Room) s m args below meth c D A 2 Q 0 0 (mW b gm res.2.1 mod_places mod_firings mod_fired res.2.2 mod_tokens mod_weights mod_logs mod_marks mod_whence mod_by mod_leads mod_comes mod_costs mod_next mod_found) pc lv [.int (vI res.1)]) : J p l e ({ frames := 0, cells := 0, slots := 0, locals := 0 } : Room) s m args below meth c D A 2 Q 0 0 (mW b gm mod_thrown mod_places mod_firings mod_fired mod_logged mod_tokens mod_weights mod_logs mod_marks mod_whence mod_by mod_leads mod_comes mod_costs mod_next mod_found) 0 [(0, .ref (b 0))] [] := by
  unfold F_X6_blank at h
  refine j_aload_n C 0 rfl rfl dX6_blank_0 ?_
  refine j_iconst C dX6_blank_1 ?_
  refine p_X6_44 C 0 rfl (Nat.le_of_ble_eq_true rfl) (mW b gm 0 mod_places mod_firings mod_fired mod_logged mod_tokens mod_weights mod_logs mod_marks mod_whence mod_by mod_leads mod_comes mod_costs mod_next mod_found) rfl dX6_blank_2 ?_
  refine j_aload_n C 0 rfl rfl dX6_blank_5 ?_
  refine g_X6_154 C (v := .int (vI mod_logged)) 0 rfl rfl dX6_blank_6 ?_
  refine j_istore_n C [(1, .int (vI mod_logged)), (0, .ref (b 0))] rfl rfl (by decide) dX6_blank_9 ?_
  refine j_aload_n C 1 rfl rfl dX6_blank_10 ?_
  refine j_iconst C dX6_blank_11 ?_
  refine p_X6_154 C 0 rfl (Nat.le_of_ble_eq_true rfl) (mW b gm 0 mod_places mod_firings mod_fired 0 mod_tokens mod_weights mod_logs mod_marks mod_whence mod_by mod_leads mod_comes mod_costs mod_next mod_found) rfl dX6_blank_12 ?_
  refine j_iload_n C 0 rfl rfl dX6_blank_15 ?_
  cases h
  exact RET _ _ dX6_blank_16
theorem c_X6_blank (l : Launch) (D : va_G) (b : Nat → Nat) (gm : Nat → ClassId) (mod_thrown : Int) (mod_places : Int) (mod_firings : Int) (mod_fired : Int) (mod_logged : Int) (mod_tokens : Nat → Int) (mod_weights : Nat → Int) (mod_logs : Nat → Int) (mod_marks : Nat → Int) (mod_whence : Nat → Int) (mod_by : Nat → Int) (mod_leads : Nat → Int) (mod_comes : Nat → Int) (mod_costs : Nat → Int) (mod_next : Nat → Int) (mod_found : Nat → Int)  (res : Int × (Int) × (Int)) (h : F_X6_blank mod_thrown mod_logged = some res) : Kt l yX6_blank cX6_blank 2 (some .int) ({ frames := 0, cells := 0, slots := 0, locals := 0 } : Room) D (mT gm) [.ref (b 0)] (mW b gm mod_thrown mod_places mod_firings mod_fired mod_logged mod_tokens mod_weights mod_logs mod_marks mod_whence mod_by mod_leads mod_comes mod_costs mod_next mod_found) (mW b gm res.2.1 mod_places mod_firings mod_fired res.2.2 mod_tokens mod_weights mod_logs mod_marks mod_whence mod_by mod_leads mod_comes mod_costs mod_next mod_found) (some (.int (vI res.1))) :=
  kt_i (ty := .int) rfl rfl (by decide +kernel) (Nat.le_of_ble_eq_true rfl) (fun C RET => k_X6_blank C res h RET)
set_option maxRecDepth 100000 in
set_option maxHeartbeats 4000000 in
theorem k_X6_goes {b : Nat → Nat} {gm : Nat → ClassId} {mod_thrown : Int} {mod_places : Int} {mod_firings : Int} {mod_fired : Int} {mod_logged : Int} {mod_tokens : Nat → Int} {mod_weights : Nat → Int} {mod_logs : Nat → Int} {mod_marks : Nat → Int} {mod_whence : Nat → Int} {mod_by : Nat → Int} {mod_leads : Nat → Int} {mod_comes : Nat → Int} {mod_costs : Nat → Int} {mod_next : Nat → Int} {mod_found : Nat → Int} (C : JC p s m args meth c cX6_goes 3 "MarkingHallModel" D (mT gm) A)  (res : Int × (Int) × (Nat → Int)) (h : F_X6_goes mod_places mod_logged mod_tokens mod_weights mod_logs mod_thrown mod_marks = some res) (RET : ∀ (pc : Nat) (lv : List (Nat × Value)), decode cX6_goes pc = .ok (.ireturn, 1) → J p l e ({ frames := 3, cells := 0, slots := 0, locals := 72 } : Room) s m args below meth c D A 3 Q 0 0 (mW b gm res.2.1 mod_places mod_firings mod_fired mod_logged mod_tokens mod_weights mod_logs res.2.2 mod_whence mod_by mod_leads mod_comes mod_costs mod_next mod_found) pc lv [.int (vI res.1)]) : J p l e ({ frames := 3, cells := 0, slots := 0, locals := 72 } : Room) s m args below meth c D A 3 Q 0 0 (mW b gm mod_thrown mod_places mod_firings mod_fired mod_logged mod_tokens mod_weights mod_logs mod_marks mod_whence mod_by mod_leads mod_comes mod_costs mod_next mod_found) 0 [(0, .ref (b 0))] [] := by
  have J11 : ∀ (n : Nat) (l1 : Int) (mod_thrown : Int) (mod_marks : Nat → Int), F_X6_goes_b11 mod_places mod_logged mod_tokens mod_weights mod_logs n l1 mod_thrown mod_marks = some res → J p l e ({ frames := 3, cells := 0, slots := 0, locals := 72 } : Room) s m args below meth c D A 3 Q 0 0 (mW b gm mod_thrown mod_places mod_firings mod_fired mod_logged mod_tokens mod_weights mod_logs mod_marks mod_whence mod_by mod_leads mod_comes mod_costs mod_next mod_found) 11 [(0, .ref (b 0)), (1, .int (vI l1))] [] := by
    intro n
    induction n with
    | zero => intro l1 mod_thrown mod_marks h; exact no_h h
    | succ n ih11 =>
      intro l1 mod_thrown mod_marks h
      replace h : F_X6_goes_b11_body mod_places mod_logged mod_tokens mod_weights mod_logs (F_X6_goes_b11 mod_places mod_logged mod_tokens mod_weights mod_logs n) l1 mod_thrown mod_marks = some res := h
      generalize F_X6_goes_b11 mod_places mod_logged mod_tokens mod_weights mod_logs n = ag11 at ih11 h
      have J37 : ∀ (n : Nat) (l1 : Int) (l2 : Int) (mod_thrown : Int) (mod_marks : Nat → Int), F_X6_goes_b37 mod_places mod_logged mod_tokens mod_weights mod_logs ag11 n l1 l2 mod_thrown mod_marks = some res → J p l e ({ frames := 3, cells := 0, slots := 0, locals := 72 } : Room) s m args below meth c D A 3 Q 0 0 (mW b gm mod_thrown mod_places mod_firings mod_fired mod_logged mod_tokens mod_weights mod_logs mod_marks mod_whence mod_by mod_leads mod_comes mod_costs mod_next mod_found) 37 [(0, .ref (b 0)), (1, .int (vI l1)), (2, .int (vI l2))] [] := by
        intro n
        induction n with
        | zero => intro l1 l2 mod_thrown mod_marks h; exact no_h h
        | succ n ih37 =>
          intro l1 l2 mod_thrown mod_marks h
          replace h : F_X6_goes_b37_body mod_places mod_logged mod_tokens mod_weights mod_logs ag11 (F_X6_goes_b37 mod_places mod_logged mod_tokens mod_weights mod_logs ag11 n) l1 l2 mod_thrown mod_marks = some res := h
          generalize F_X6_goes_b37 mod_places mod_logged mod_tokens mod_weights mod_logs ag11 n = ag37 at ih37 h
          unfold F_X6_goes_b37_body at h
          refine j_iload_n C 2 rfl rfl dX6_goes_37 ?_
          refine j_aload_n C 0 rfl rfl dX6_goes_38 ?_
          refine g_X6_48 C (v := .int (vI mod_places)) 0 rfl rfl dX6_goes_39 ?_
          refine j_icmp_ge C h 74 (by decide) dX6_goes_42 (fun c7 h => ?_) (fun c7 h => ?_)
          · refine j_iinc C 1 rfl (fun v => [(1, .int (vI v)), (0, .ref (b 0)), (2, .int (vI l2))]) (fun _ => rfl) (by decide) h dX6_goes_74 (fun v1 h => ?_)
            refine j_goto C 11 (by decide) dX6_goes_77 ?_
            refine j_lv [1, 0] rfl ?_
            exact ih11 v1 mod_thrown mod_marks h
          · refine j_aload_n C 0 rfl rfl dX6_goes_45 ?_
            refine g_X6_19 C (v := .ref (b 4)) 0 rfl rfl dX6_goes_46 ?_
            refine j_iload_n C 2 rfl rfl dX6_goes_49 ?_
            refine j_aload_n C 0 rfl rfl dX6_goes_50 ?_
            refine j_aload_n C 0 rfl rfl dX6_goes_51 ?_
            refine g_X6_19 C (v := .ref (b 4)) 0 rfl rfl dX6_goes_52 ?_
            refine j_iload_n C 2 rfl rfl dX6_goes_55 ?_
            refine j_iald C 4 3 rfl rfl (Nat.le_of_ble_eq_true rfl) h dX6_goes_56 (fun v2 h => ?_)
            refine j_aload_n C 0 rfl rfl dX6_goes_57 ?_
            refine g_X6_16 C (v := .ref (b 3)) 0 rfl rfl dX6_goes_58 ?_
            refine j_iload_n C 1 rfl rfl dX6_goes_61 ?_
            refine j_iald C 3 2 rfl rfl (Nat.le_of_ble_eq_true rfl) h dX6_goes_62 (fun v3 h => ?_)
            refine j_iload_n C 2 rfl rfl dX6_goes_63 ?_
            obtain ⟨r4, hr4, h⟩ := Ob_of h
            refine q_X6_72 C (wc := (mW b gm mod_thrown mod_places mod_firings mod_fired mod_logged mod_tokens mod_weights mod_logs mod_marks mod_whence mod_by mod_leads mod_comes mod_costs mod_next mod_found)) (wc' := (mW b gm mod_thrown mod_places mod_firings mod_fired mod_logged mod_tokens mod_weights mod_logs mod_marks mod_whence mod_by mod_leads mod_comes mod_costs mod_next mod_found)) (c_X6_after l D b gm mod_thrown mod_places mod_firings mod_fired mod_logged mod_tokens mod_weights mod_logs mod_marks mod_whence mod_by mod_leads mod_comes mod_costs mod_next mod_found v2 v3 l2 r4 hr4) ⟨(Nat.le_of_ble_eq_true rfl), (Nat.le_of_ble_eq_true rfl)⟩ rfl rfl 0 rfl rfl (ww _) (ww _) rfl C.2.2.2.2.2.2.1 (Nat.le_of_ble_eq_true rfl) rfl rfl (Nat.zero_le _) (Nat.zero_le _) dX6_goes_64 ?_
            refine j_iast C 4 3 rfl rfl (Nat.le_of_ble_eq_true rfl) (fun f' => (mW b gm mod_thrown mod_places mod_firings mod_fired mod_logged mod_tokens mod_weights mod_logs f' mod_whence mod_by mod_leads mod_comes mod_costs mod_next mod_found)) (fun _ => rfl) h dX6_goes_67 (fun f5 h => ?_)
            refine j_iinc C 2 rfl (fun v => [(2, .int (vI v)), (0, .ref (b 0)), (1, .int (vI l1))]) (fun _ => rfl) (by decide) h dX6_goes_68 (fun v6 h => ?_)
            refine j_goto C 37 (by decide) dX6_goes_71 ?_
            refine j_lv [1, 2, 0] rfl ?_
            exact ih37 l1 v6 mod_thrown f5 h
      unfold F_X6_goes_b11_body at h
      refine j_iload_n C 1 rfl rfl dX6_goes_11 ?_
      refine j_aload_n C 0 rfl rfl dX6_goes_12 ?_
      refine g_X6_154 C (v := .int (vI mod_logged)) 0 rfl rfl dX6_goes_13 ?_
      refine j_icmp_ge C h 80 (by decide) dX6_goes_16 (fun c11 h => ?_) (fun c11 h => ?_)
      · refine j_aload_n C 0 rfl rfl dX6_goes_80 ?_
        refine g_X6_154 C (v := .int (vI mod_logged)) 0 rfl rfl dX6_goes_81 ?_
        cases h
        exact RET _ _ dX6_goes_84
      · refine j_aload_n C 0 rfl rfl dX6_goes_19 ?_
        refine j_iconst C dX6_goes_20 ?_
        refine j_aload_n C 0 rfl rfl dX6_goes_21 ?_
        refine g_X6_16 C (v := .ref (b 3)) 0 rfl rfl dX6_goes_22 ?_
        refine j_iload_n C 1 rfl rfl dX6_goes_25 ?_
        refine j_iald C 3 2 rfl rfl (Nat.le_of_ble_eq_true rfl) h dX6_goes_26 (fun v8 h => ?_)
        obtain ⟨r9, hr9, h⟩ := Ob_of h
        refine q_X6_78 C (wc := (mW b gm mod_thrown mod_places mod_firings mod_fired mod_logged mod_tokens mod_weights mod_logs mod_marks mod_whence mod_by mod_leads mod_comes mod_costs mod_next mod_found)) (wc' := (mW b gm mod_thrown mod_places mod_firings mod_fired mod_logged mod_tokens mod_weights mod_logs mod_marks mod_whence mod_by mod_leads mod_comes mod_costs mod_next mod_found)) (c_X6_canIn l D b gm mod_thrown mod_places mod_firings mod_fired mod_logged mod_tokens mod_weights mod_logs mod_marks mod_whence mod_by mod_leads mod_comes mod_costs mod_next mod_found 0 v8 r9 hr9) ⟨(Nat.le_of_ble_eq_true rfl), (Nat.le_of_ble_eq_true rfl)⟩ rfl rfl 0 rfl rfl (ww _) (ww _) rfl C.2.2.2.2.2.2.1 (Nat.le_of_ble_eq_true rfl) rfl rfl (Nat.zero_le _) (Nat.zero_le _) dX6_goes_27 ?_
        refine j_if_ne C h 35 (by decide) dX6_goes_30 (fun c10 h => ?_) (fun c10 h => ?_)
        · refine j_iconst C dX6_goes_35 ?_
          refine j_istore_n C [(2, .int (vI 0)), (0, .ref (b 0)), (1, .int (vI l1))] rfl rfl (by decide) dX6_goes_36 ?_
          refine j_lv [1, 2, 0] rfl ?_
          exact J37 NN l1 0 mod_thrown mod_marks h
        · refine j_iload_n C 1 rfl rfl dX6_goes_33 ?_
          cases h
          exact RET _ _ dX6_goes_34
  unfold F_X6_goes at h
  refine j_aload_n C 0 rfl rfl dX6_goes_0 ?_
  refine j_iconst C dX6_goes_1 ?_
  refine p_X6_44 C 0 rfl (Nat.le_of_ble_eq_true rfl) (mW b gm 0 mod_places mod_firings mod_fired mod_logged mod_tokens mod_weights mod_logs mod_marks mod_whence mod_by mod_leads mod_comes mod_costs mod_next mod_found) rfl dX6_goes_2 ?_
  refine j_aload_n C 0 rfl rfl dX6_goes_5 ?_
  obtain ⟨r12, hr12, h⟩ := Ob_of h
  refine q_X6_75 C (wc := (mW b gm 0 mod_places mod_firings mod_fired mod_logged mod_tokens mod_weights mod_logs mod_marks mod_whence mod_by mod_leads mod_comes mod_costs mod_next mod_found)) (wc' := (mW b gm 0 mod_places mod_firings mod_fired mod_logged mod_tokens mod_weights mod_logs r12 mod_whence mod_by mod_leads mod_comes mod_costs mod_next mod_found)) (c_X6_layNow l D b gm 0 mod_places mod_firings mod_fired mod_logged mod_tokens mod_weights mod_logs mod_marks mod_whence mod_by mod_leads mod_comes mod_costs mod_next mod_found r12 hr12) ⟨(Nat.le_of_ble_eq_true rfl), (Nat.le_of_ble_eq_true rfl)⟩ rfl rfl 0 rfl rfl (ww _) (ww _) mW_ha C.2.2.2.2.2.2.1 (Nat.le_of_ble_eq_true rfl) rfl rfl (Nat.zero_le _) (Nat.zero_le _) dX6_goes_6 ?_
  refine j_iconst C dX6_goes_9 ?_
  refine j_istore_n C [(1, .int (vI 0)), (0, .ref (b 0))] rfl rfl (by decide) dX6_goes_10 ?_
  refine j_lv [1, 0] rfl ?_
  exact J11 NN 0 0 r12 h
theorem c_X6_goes (l : Launch) (D : va_G) (b : Nat → Nat) (gm : Nat → ClassId) (mod_thrown : Int) (mod_places : Int) (mod_firings : Int) (mod_fired : Int) (mod_logged : Int) (mod_tokens : Nat → Int) (mod_weights : Nat → Int) (mod_logs : Nat → Int) (mod_marks : Nat → Int) (mod_whence : Nat → Int) (mod_by : Nat → Int) (mod_leads : Nat → Int) (mod_comes : Nat → Int) (mod_costs : Nat → Int) (mod_next : Nat → Int) (mod_found : Nat → Int)  (res : Int × (Int) × (Nat → Int)) (h : F_X6_goes mod_places mod_logged mod_tokens mod_weights mod_logs mod_thrown mod_marks = some res) : Kt l yX6_goes cX6_goes 3 (some .int) ({ frames := 3, cells := 0, slots := 0, locals := 72 } : Room) D (mT gm) [.ref (b 0)] (mW b gm mod_thrown mod_places mod_firings mod_fired mod_logged mod_tokens mod_weights mod_logs mod_marks mod_whence mod_by mod_leads mod_comes mod_costs mod_next mod_found) (mW b gm res.2.1 mod_places mod_firings mod_fired mod_logged mod_tokens mod_weights mod_logs res.2.2 mod_whence mod_by mod_leads mod_comes mod_costs mod_next mod_found) (some (.int (vI res.1))) :=
  kt_i (ty := .int) rfl rfl (by decide +kernel) (Nat.le_of_ble_eq_true rfl) (fun C RET => k_X6_goes C res h RET)
set_option maxRecDepth 100000 in
set_option maxHeartbeats 4000000 in
theorem k_X6_goBesides {b : Nat → Nat} {gm : Nat → ClassId} {mod_thrown : Int} {mod_places : Int} {mod_firings : Int} {mod_fired : Int} {mod_logged : Int} {mod_tokens : Nat → Int} {mod_weights : Nat → Int} {mod_logs : Nat → Int} {mod_marks : Nat → Int} {mod_whence : Nat → Int} {mod_by : Nat → Int} {mod_leads : Nat → Int} {mod_comes : Nat → Int} {mod_costs : Nat → Int} {mod_next : Nat → Int} {mod_found : Nat → Int} (C : JC p s m args meth c cX6_goBesides 6 "MarkingHallModel" D (mT gm) A) (x1 : Int) (res : (Nat → Int)) (h : F_X6_goBesides x1 mod_firings mod_leads mod_costs = some res) (RET : ∀ (pc : Nat) (lv : List (Nat × Value)), decode cX6_goBesides pc = .ok (.return_, 1) → J p l e ({ frames := 0, cells := 0, slots := 0, locals := 0 } : Room) s m args below meth c D A 6 Q 0 0 (mW b gm mod_thrown mod_places mod_firings mod_fired mod_logged mod_tokens mod_weights mod_logs mod_marks mod_whence mod_by mod_leads mod_comes res mod_next mod_found) pc lv []) : J p l e ({ frames := 0, cells := 0, slots := 0, locals := 0 } : Room) s m args below meth c D A 6 Q 0 0 (mW b gm mod_thrown mod_places mod_firings mod_fired mod_logged mod_tokens mod_weights mod_logs mod_marks mod_whence mod_by mod_leads mod_comes mod_costs mod_next mod_found) 0 [(0, .ref (b 0)), (1, .int (vI x1))] [] := by
  have J2 : ∀ (n : Nat) (l1 : Int) (l2 : Int) (mod_costs : Nat → Int), F_X6_goBesides_b2 mod_firings mod_leads n l1 l2 mod_costs = some res → J p l e ({ frames := 0, cells := 0, slots := 0, locals := 0 } : Room) s m args below meth c D A 6 Q 0 0 (mW b gm mod_thrown mod_places mod_firings mod_fired mod_logged mod_tokens mod_weights mod_logs mod_marks mod_whence mod_by mod_leads mod_comes mod_costs mod_next mod_found) 2 [(0, .ref (b 0)), (1, .int (vI l1)), (2, .int (vI l2))] [] := by
    intro n
    induction n with
    | zero => intro l1 l2 mod_costs h; exact no_h h
    | succ n ih2 =>
      intro l1 l2 mod_costs h
      replace h : F_X6_goBesides_b2_body mod_firings mod_leads (F_X6_goBesides_b2 mod_firings mod_leads n) l1 l2 mod_costs = some res := h
      generalize F_X6_goBesides_b2 mod_firings mod_leads n = ag2 at ih2 h
      have J10 : ∀ (n : Nat) (l1 : Int) (l2 : Int) (l3 : Int) (mod_costs : Nat → Int), F_X6_goBesides_b10 mod_firings mod_leads ag2 n l1 l2 l3 mod_costs = some res → J p l e ({ frames := 0, cells := 0, slots := 0, locals := 0 } : Room) s m args below meth c D A 6 Q 0 0 (mW b gm mod_thrown mod_places mod_firings mod_fired mod_logged mod_tokens mod_weights mod_logs mod_marks mod_whence mod_by mod_leads mod_comes mod_costs mod_next mod_found) 10 [(0, .ref (b 0)), (1, .int (vI l1)), (2, .int (vI l2)), (3, .int (vI l3))] [] := by
        intro n
        induction n with
        | zero => intro l1 l2 l3 mod_costs h; exact no_h h
        | succ n ih10 =>
          intro l1 l2 l3 mod_costs h
          replace h : F_X6_goBesides_b10_body mod_firings mod_leads ag2 (F_X6_goBesides_b10 mod_firings mod_leads ag2 n) l1 l2 l3 mod_costs = some res := h
          generalize F_X6_goBesides_b10 mod_firings mod_leads ag2 n = ag10 at ih10 h
          have J18 : ∀ (n : Nat) (l1 : Int) (l2 : Int) (l3 : Int) (l4 : Int) (mod_costs : Nat → Int), F_X6_goBesides_b18 mod_firings mod_leads ag2 ag10 n l1 l2 l3 l4 mod_costs = some res → J p l e ({ frames := 0, cells := 0, slots := 0, locals := 0 } : Room) s m args below meth c D A 6 Q 0 0 (mW b gm mod_thrown mod_places mod_firings mod_fired mod_logged mod_tokens mod_weights mod_logs mod_marks mod_whence mod_by mod_leads mod_comes mod_costs mod_next mod_found) 18 [(0, .ref (b 0)), (1, .int (vI l1)), (2, .int (vI l2)), (3, .int (vI l3)), (4, .int (vI l4))] [] := by
            intro n
            induction n with
            | zero => intro l1 l2 l3 l4 mod_costs h; exact no_h h
            | succ n ih18 =>
              intro l1 l2 l3 l4 mod_costs h
              replace h : F_X6_goBesides_b18_body mod_firings mod_leads ag2 ag10 (F_X6_goBesides_b18 mod_firings mod_leads ag2 ag10 n) l1 l2 l3 l4 mod_costs = some res := h
              generalize F_X6_goBesides_b18 mod_firings mod_leads ag2 ag10 n = ag18 at ih18 h
              have J82 : ∀ (l1 : Int) (l2 : Int) (l3 : Int) (l4 : Int) (mod_costs : Nat → Int), F_X6_goBesides_b82 mod_firings mod_leads ag2 ag10 ag18 l1 l2 l3 l4 mod_costs = some res → J p l e ({ frames := 0, cells := 0, slots := 0, locals := 0 } : Room) s m args below meth c D A 6 Q 0 0 (mW b gm mod_thrown mod_places mod_firings mod_fired mod_logged mod_tokens mod_weights mod_logs mod_marks mod_whence mod_by mod_leads mod_comes mod_costs mod_next mod_found) 82 [(0, .ref (b 0)), (1, .int (vI l1)), (2, .int (vI l2)), (3, .int (vI l3)), (4, .int (vI l4))] [] := by
                intro l1 l2 l3 l4 mod_costs h
                unfold F_X6_goBesides_b82 at h
                refine j_iinc C 4 rfl (fun v => [(4, .int (vI v)), (0, .ref (b 0)), (1, .int (vI l1)), (2, .int (vI l2)), (3, .int (vI l3))]) (fun _ => rfl) (by decide) h dX6_goBesides_82 (fun v1 h => ?_)
                refine j_goto C 18 (by decide) dX6_goBesides_85 ?_
                refine j_lv [1, 2, 3, 4, 0] rfl ?_
                exact ih18 l1 l2 l3 v1 mod_costs h
              unfold F_X6_goBesides_b18_body at h
              refine j_iload C 4 rfl dX6_goBesides_18 ?_
              refine j_aload_n C 0 rfl rfl dX6_goBesides_20 ?_
              refine g_X6_55 C (v := .int (vI mod_firings)) 0 rfl rfl dX6_goBesides_21 ?_
              refine j_icmp_ge C h 88 (by decide) dX6_goBesides_24 (fun c13 h => ?_) (fun c13 h => ?_)
              · refine j_iinc C 3 rfl (fun v => [(3, .int (vI v)), (0, .ref (b 0)), (1, .int (vI l1)), (2, .int (vI l2)), (4, .int (vI l4))]) (fun _ => rfl) (by decide) h dX6_goBesides_88 (fun v2 h => ?_)
                refine j_goto C 10 (by decide) dX6_goBesides_91 ?_
                refine j_lv [1, 2, 3, 0] rfl ?_
                exact ih10 l1 l2 v2 mod_costs h
              · refine j_aload_n C 0 rfl rfl dX6_goBesides_27 ?_
                refine g_X6_28 C (v := .ref (b 7)) 0 rfl rfl dX6_goBesides_28 ?_
                refine j_bipush C (by decide) dX6_goBesides_31 ?_
                refine j_iload_n C 3 rfl rfl dX6_goBesides_33 ?_
                refine j_imul C dX6_goBesides_34 ?_
                refine j_iload C 4 rfl dX6_goBesides_35 ?_
                refine j_iadd C dX6_goBesides_37 ?_
                refine j_nm h (fun v3 h => ?_)
                refine j_iald C 7 6 rfl rfl (Nat.le_of_ble_eq_true rfl) h dX6_goBesides_38 (fun v4 h => ?_)
                refine j_istore C [(5, .int (vI v4)), (0, .ref (b 0)), (1, .int (vI l1)), (2, .int (vI l2)), (3, .int (vI l3)), (4, .int (vI l4))] rfl (by decide) dX6_goBesides_39 ?_
                refine j_iload C 0 rfl dX6_goBesides_41 ?_
                refine j_iconst C dX6_goBesides_43 ?_
                refine j_icmp_eq C h 82 (by decide) dX6_goBesides_44 (fun c12 h => ?_) (fun c12 h => ?_)
                · refine j_lv [1, 2, 3, 4, 5] rfl ?_
                  exact J82 l1 l2 l3 l4 mod_costs h
                · refine j_aload_n C 1 rfl rfl dX6_goBesides_47 ?_
                  refine g_X6_35 C (v := .ref (b 9)) 0 rfl rfl dX6_goBesides_48 ?_
                  refine j_iload_n C 4 rfl rfl dX6_goBesides_51 ?_
                  refine j_iald C 9 8 rfl rfl (Nat.le_of_ble_eq_true rfl) h dX6_goBesides_52 (fun v5 h => ?_)
                  refine j_iconst C dX6_goBesides_53 ?_
                  refine j_iadd C dX6_goBesides_54 ?_
                  refine j_aload_n C 1 rfl rfl dX6_goBesides_55 ?_
                  refine g_X6_35 C (v := .ref (b 9)) 0 rfl rfl dX6_goBesides_56 ?_
                  refine j_iload C 0 rfl dX6_goBesides_59 ?_
                  refine j_iald C 9 8 rfl rfl (Nat.le_of_ble_eq_true rfl) h dX6_goBesides_61 (fun v6 h => ?_)
                  refine j_nm2 h (fun v7 h => ?_)
                  refine j_icmp_ge C h 82 (by decide) dX6_goBesides_62 (fun c11 h => ?_) (fun c11 h => ?_)
                  · refine j_lv [1, 2, 3, 4, 5] rfl ?_
                    exact J82 l1 l2 l3 l4 mod_costs h
                  · refine j_aload_n C 1 rfl rfl dX6_goBesides_65 ?_
                    refine g_X6_35 C (v := .ref (b 9)) 0 rfl rfl dX6_goBesides_66 ?_
                    refine j_iload C 0 rfl dX6_goBesides_69 ?_
                    refine j_aload_n C 1 rfl rfl dX6_goBesides_71 ?_
                    refine g_X6_35 C (v := .ref (b 9)) 0 rfl rfl dX6_goBesides_72 ?_
                    refine j_iload_n C 4 rfl rfl dX6_goBesides_75 ?_
                    refine j_iald C 9 8 rfl rfl (Nat.le_of_ble_eq_true rfl) h dX6_goBesides_76 (fun v8 h => ?_)
                    refine j_iconst C dX6_goBesides_77 ?_
                    refine j_iadd C dX6_goBesides_78 ?_
                    refine j_nm h (fun v9 h => ?_)
                    refine j_iast C 9 8 rfl rfl (Nat.le_of_ble_eq_true rfl) (fun f' => (mW b gm mod_thrown mod_places mod_firings mod_fired mod_logged mod_tokens mod_weights mod_logs mod_marks mod_whence mod_by mod_leads mod_comes f' mod_next mod_found)) (fun _ => rfl) h dX6_goBesides_79 (fun f10 h => ?_)
                    refine j_iconst C dX6_goBesides_80 ?_
                    refine j_istore_n C [(2, .int (vI 1)), (5, .int (vI v4)), (0, .ref (b 0)), (1, .int (vI l1)), (3, .int (vI l3)), (4, .int (vI l4))] rfl rfl (by decide) dX6_goBesides_81 ?_
                    refine j_lv [2, 3, 0, 4, 5] rfl ?_
                    exact J82 l1 1 l3 l4 f10 h
          unfold F_X6_goBesides_b10_body at h
          refine j_iload_n C 3 rfl rfl dX6_goBesides_10 ?_
          refine j_iload_n C 1 rfl rfl dX6_goBesides_11 ?_
          refine j_icmp_ge C h 94 (by decide) dX6_goBesides_12 (fun c14 h => ?_) (fun c14 h => ?_)
          · refine j_goto C 2 (by decide) dX6_goBesides_94 ?_
            refine j_lv [0, 1, 2] rfl ?_
            exact ih2 l1 l2 mod_costs h
          · refine j_iconst C dX6_goBesides_15 ?_
            refine j_istore C [(4, .int (vI 0)), (0, .ref (b 0)), (1, .int (vI l1)), (2, .int (vI l2)), (3, .int (vI l3))] rfl (by decide) dX6_goBesides_16 ?_
            refine j_lv [1, 2, 3, 4, 0] rfl ?_
            exact J18 NN l1 l2 l3 0 mod_costs h
      unfold F_X6_goBesides_b2_body at h
      refine j_iload_n C 2 rfl rfl dX6_goBesides_2 ?_
      refine j_if_eq C h 97 (by decide) dX6_goBesides_3 (fun c15 h => ?_) (fun c15 h => ?_)
      · cases h
        exact RET _ _ dX6_goBesides_97
      · refine j_iconst C dX6_goBesides_6 ?_
        refine j_istore_n C [(2, .int (vI 0)), (0, .ref (b 0)), (1, .int (vI l1))] rfl rfl (by decide) dX6_goBesides_7 ?_
        refine j_iconst C dX6_goBesides_8 ?_
        refine j_istore_n C [(3, .int (vI 0)), (2, .int (vI 0)), (0, .ref (b 0)), (1, .int (vI l1))] rfl rfl (by decide) dX6_goBesides_9 ?_
        refine j_lv [2, 3, 1, 0] rfl ?_
        exact J10 NN l1 0 0 mod_costs h
  unfold F_X6_goBesides at h
  refine j_iconst C dX6_goBesides_0 ?_
  refine j_istore_n C [(2, .int (vI 1)), (0, .ref (b 0)), (1, .int (vI x1))] rfl rfl (by decide) dX6_goBesides_1 ?_
  refine j_lv [1, 2, 0] rfl ?_
  exact J2 NN x1 1 mod_costs h
theorem c_X6_goBesides (l : Launch) (D : va_G) (b : Nat → Nat) (gm : Nat → ClassId) (mod_thrown : Int) (mod_places : Int) (mod_firings : Int) (mod_fired : Int) (mod_logged : Int) (mod_tokens : Nat → Int) (mod_weights : Nat → Int) (mod_logs : Nat → Int) (mod_marks : Nat → Int) (mod_whence : Nat → Int) (mod_by : Nat → Int) (mod_leads : Nat → Int) (mod_comes : Nat → Int) (mod_costs : Nat → Int) (mod_next : Nat → Int) (mod_found : Nat → Int) (x1 : Int) (res : (Nat → Int)) (h : F_X6_goBesides x1 mod_firings mod_leads mod_costs = some res) : Kt l yX6_goBesides cX6_goBesides 6 none ({ frames := 0, cells := 0, slots := 0, locals := 0 } : Room) D (mT gm) [.ref (b 0), .int (vI x1)] (mW b gm mod_thrown mod_places mod_firings mod_fired mod_logged mod_tokens mod_weights mod_logs mod_marks mod_whence mod_by mod_leads mod_comes mod_costs mod_next mod_found) (mW b gm mod_thrown mod_places mod_firings mod_fired mod_logged mod_tokens mod_weights mod_logs mod_marks mod_whence mod_by mod_leads mod_comes res mod_next mod_found) none :=
  kt_v rfl (by decide +kernel) (Nat.le_of_ble_eq_true rfl) (fun C RET => k_X6_goBesides C x1 res h RET)
end WK
