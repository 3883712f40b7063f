section WK
variable {p : Program} {l : Launch} {e : Env} {s : State} {m : MethodId} {args : Array Value} {below : List Frame} {meth : Method} {c : Code} {D : va_G} {A : Nat → Prop} {Q : State → Prop}
set_option maxRecDepth 100000 in
set_option maxHeartbeats 4000000 in
theorem k_X6_level {b : Nat → Nat} {gm : Nat → ClassId} {mod_thrown : Int} {mod_places : Int} {mod_firings : Int} {mod_fired : Int} {mod_logged : Int} {mod_tokens : Nat → Int} {mod_weights : Nat → Int} {mod_logs : Nat → Int} {mod_marks : Nat → Int} {mod_whence : Nat → Int} {mod_by : Nat → Int} {mod_leads : Nat → Int} {mod_comes : Nat → Int} {mod_costs : Nat → Int} {mod_next : Nat → Int} {mod_found : Nat → Int} (C : JC p s m args meth c cX6_level 5 "MarkingHallModel" D (mT gm) A) (x1 : Int) (res : Int × (Int) × (Nat → Int) × (Nat → Int) × (Nat → Int) × (Nat → Int) × (Nat → Int)) (h : F_X6_level x1 mod_places mod_firings mod_tokens mod_weights mod_thrown mod_marks mod_whence mod_by mod_leads mod_comes = some res) (RET : ∀ (pc : Nat) (lv : List (Nat × Value)), decode cX6_level pc = .ok (.ireturn, 1) → J p l e ({ frames := 4, cells := 0, slots := 0, locals := 97 } : Room) s m args below meth c D A 5 Q 0 0 (mW b gm res.2.1 mod_places mod_firings mod_fired mod_logged mod_tokens mod_weights mod_logs res.2.2.1 res.2.2.2.1 res.2.2.2.2.1 res.2.2.2.2.2.1 res.2.2.2.2.2.2 mod_costs mod_next mod_found) pc lv [.int (vI res.1)]) : J p l e ({ frames := 4, cells := 0, slots := 0, locals := 97 } : Room) s m args below meth c D A 5 Q 0 0 (mW b gm mod_thrown mod_places mod_firings mod_fired mod_logged mod_tokens mod_weights mod_logs mod_marks mod_whence mod_by mod_leads mod_comes mod_costs mod_next mod_found) 0 [(0, .ref (b 0)), (1, .int (vI x1))] [] := by
  have J101 : ∀ (l2 : Int) (mod_thrown : Int) (mod_marks : Nat → Int) (mod_whence : Nat → Int) (mod_by : Nat → Int) (mod_leads : Nat → Int) (mod_comes : Nat → Int), F_X6_level_b101 mod_places mod_firings mod_tokens mod_weights l2 mod_thrown mod_marks mod_whence mod_by mod_leads mod_comes = some res → J p l e ({ frames := 4, cells := 0, slots := 0, locals := 97 } : Room) s m args below meth c D A 5 Q 0 0 (mW b gm mod_thrown mod_places mod_firings mod_fired mod_logged mod_tokens mod_weights mod_logs mod_marks mod_whence mod_by mod_leads mod_comes mod_costs mod_next mod_found) 101 [(2, .int (vI l2))] [] := by
    intro l2 mod_thrown mod_marks mod_whence mod_by mod_leads mod_comes h
    unfold F_X6_level_b101 at h
    refine j_iload_n C 0 rfl rfl dX6_level_101 ?_
    refine j_iconst C dX6_level_102 ?_
    refine j_icmp_ne C h 110 (by decide) dX6_level_103 (fun c1 h => ?_) (fun c1 h => ?_)
    · refine j_iconst C dX6_level_110 ?_
      cases h
      exact RET _ _ dX6_level_111
    · refine j_iconst C dX6_level_106 ?_
      refine j_goto C 111 (by decide) dX6_level_107 ?_
      cases h
      exact RET _ _ dX6_level_111
  have J32 : ∀ (n : Nat) (l1 : Int) (l2 : Int) (l3 : Int) (l4 : Int) (mod_thrown : Int) (mod_marks : Nat → Int) (mod_whence : Nat → Int) (mod_by : Nat → Int) (mod_leads : Nat → Int) (mod_comes : Nat → Int), F_X6_level_b32 mod_places mod_firings mod_tokens mod_weights n l1 l2 l3 l4 mod_thrown mod_marks mod_whence mod_by mod_leads mod_comes = some res → J p l e ({ frames := 4, cells := 0, slots := 0, locals := 97 } : Room) s m args below meth c D A 5 Q 0 0 (mW b gm mod_thrown mod_places mod_firings mod_fired mod_logged mod_tokens mod_weights mod_logs mod_marks mod_whence mod_by mod_leads mod_comes mod_costs mod_next mod_found) 32 [(0, .ref (b 0)), (1, .int (vI l1)), (2, .int (vI l2)), (3, .int (vI l3)), (4, .int (vI l4))] [] := by
    intro n
    induction n with
    | zero => intro l1 l2 l3 l4 mod_thrown mod_marks mod_whence mod_by mod_leads mod_comes h; exact no_h h
    | succ n ih32 =>
      intro l1 l2 l3 l4 mod_thrown mod_marks mod_whence mod_by mod_leads mod_comes h
      replace h : F_X6_level_b32_body mod_places mod_firings mod_tokens mod_weights (F_X6_level_b32 mod_places mod_firings mod_tokens mod_weights n) l1 l2 l3 l4 mod_thrown mod_marks mod_whence mod_by mod_leads mod_comes = some res := h
      generalize F_X6_level_b32 mod_places mod_firings mod_tokens mod_weights n = ag32 at ih32 h
      have J85 : ∀ (l1 : Int) (l2 : Int) (l4 : Int) (s0 : Int) (mod_thrown : Int) (mod_marks : Nat → Int) (mod_whence : Nat → Int) (mod_by : Nat → Int) (mod_leads : Nat → Int) (mod_comes : Nat → Int), F_X6_level_b85 mod_places mod_firings mod_tokens mod_weights ag32 l1 l2 l4 s0 mod_thrown mod_marks mod_whence mod_by mod_leads mod_comes = some res → J p l e ({ frames := 4, cells := 0, slots := 0, locals := 97 } : Room) s m args below meth c D A 5 Q 0 0 (mW b gm mod_thrown mod_places mod_firings mod_fired mod_logged mod_tokens mod_weights mod_logs mod_marks mod_whence mod_by mod_leads mod_comes mod_costs mod_next mod_found) 85 [(0, .ref (b 0)), (1, .int (vI l1)), (2, .int (vI l2)), (4, .int (vI l4))] [.int (vI s0)] := by
        intro l1 l2 l4 s0 mod_thrown mod_marks mod_whence mod_by mod_leads mod_comes h
        unfold F_X6_level_b85 at h
        refine j_istore_n C [(3, .int (vI s0)), (0, .ref (b 0)), (1, .int (vI l1)), (2, .int (vI l2)), (4, .int (vI l4))] rfl rfl (by decide) dX6_level_85 ?_
        refine j_iinc C 4 rfl (fun v => [(4, .int (vI v)), (3, .int (vI s0)), (0, .ref (b 0)), (1, .int (vI l1)), (2, .int (vI l2))]) (fun _ => rfl) (by decide) h dX6_level_86 (fun v2 h => ?_)
        refine j_goto C 32 (by decide) dX6_level_89 ?_
        refine j_lv [2, 3, 4, 1, 0] rfl ?_
        exact ih32 l1 l2 s0 v2 mod_thrown mod_marks mod_whence mod_by mod_leads mod_comes h
      have J80 : ∀ (l1 : Int) (l2 : Int) (l4 : Int) (mod_thrown : Int) (mod_marks : Nat → Int) (mod_whence : Nat → Int) (mod_by : Nat → Int) (mod_leads : Nat → Int) (mod_comes : Nat → Int), F_X6_level_b80 mod_places mod_firings mod_tokens mod_weights ag32 l1 l2 l4 mod_thrown mod_marks mod_whence mod_by mod_leads mod_comes = some res → J p l e ({ frames := 4, cells := 0, slots := 0, locals := 97 } : Room) s m args below meth c D A 5 Q 0 0 (mW b gm mod_thrown mod_places mod_firings mod_fired mod_logged mod_tokens mod_weights mod_logs mod_marks mod_whence mod_by mod_leads mod_comes mod_costs mod_next mod_found) 80 [(0, .ref (b 0)), (1, .int (vI l1)), (2, .int (vI l2)), (4, .int (vI l4))] [] := by
        intro l1 l2 l4 mod_thrown mod_marks mod_whence mod_by mod_leads mod_comes h
        unfold F_X6_level_b80 at h
        refine j_iconst C dX6_level_80 ?_
        refine j_goto C 85 (by decide) dX6_level_81 ?_
        exact J85 l1 l2 l4 1 mod_thrown mod_marks mod_whence mod_by mod_leads mod_comes h
      have J65 : ∀ (l1 : Int) (l2 : Int) (l3 : Int) (l4 : Int) (s1 : Int) (s2 : Int) (mod_thrown : Int) (mod_marks : Nat → Int) (mod_whence : Nat → Int) (mod_by : Nat → Int) (mod_leads : Nat → Int) (mod_comes : Nat → Int), F_X6_level_b65 mod_places mod_firings mod_tokens mod_weights ag32 l1 l2 l3 l4 s1 s2 mod_thrown mod_marks mod_whence mod_by mod_leads mod_comes = some res → J p l e ({ frames := 4, cells := 0, slots := 0, locals := 97 } : Room) s m args below meth c D A 5 Q 0 0 (mW b gm mod_thrown mod_places mod_firings mod_fired mod_logged mod_tokens mod_weights mod_logs mod_marks mod_whence mod_by mod_leads mod_comes mod_costs mod_next mod_found) 65 [(0, .ref (b 0)), (1, .int (vI l1)), (2, .int (vI l2)), (3, .int (vI l3)), (4, .int (vI l4))] [.int (vI s2), .int (vI s1), .ref (b 8)] := by
        intro l1 l2 l3 l4 s1 s2 mod_thrown mod_marks mod_whence mod_by mod_leads mod_comes h
        unfold F_X6_level_b65 at h
        refine j_zast C 8 7 rfl rfl (Nat.le_of_ble_eq_true rfl) (fun f' => (mW b gm mod_thrown mod_places mod_firings mod_fired mod_logged mod_tokens mod_weights mod_logs mod_marks mod_whence mod_by mod_leads f' mod_costs mod_next mod_found)) (fun _ => rfl) h dX6_level_65 (fun f3 h => ?_)
        refine j_iload_n C 3 rfl rfl dX6_level_66 ?_
        refine j_if_ne C h 80 (by decide) dX6_level_67 (fun c6 h => ?_) (fun c6 h => ?_)
        · refine j_lv [0, 1, 2, 4] rfl ?_
          exact J80 l1 l2 l4 mod_thrown mod_marks mod_whence mod_by mod_leads f3 h
        · refine j_aload_n C 0 rfl rfl dX6_level_70 ?_
          refine g_X6_31 C (v := .ref (b 8)) 0 rfl rfl dX6_level_71 ?_
          refine j_iload C 4 rfl dX6_level_74 ?_
          refine j_zald C 8 7 rfl rfl (Nat.le_of_ble_eq_true rfl) h dX6_level_76 (fun v4 h => ?_)
          refine j_if_eq C h 84 (by decide) dX6_level_77 (fun c5 h => ?_) (fun c5 h => ?_)
          · refine j_iconst C dX6_level_84 ?_
            refine j_lv [0, 1, 2, 4] rfl ?_
            exact J85 l1 l2 l4 0 mod_thrown mod_marks mod_whence mod_by mod_leads f3 h
          · refine j_lv [0, 1, 2, 4] rfl ?_
            exact J80 l1 l2 l4 mod_thrown mod_marks mod_whence mod_by mod_leads f3 h
      unfold F_X6_level_b32_body at h
      refine j_iload C 4 rfl dX6_level_32 ?_
      refine j_iload_n C 2 rfl rfl dX6_level_34 ?_
      refine j_icmp_ge C h 92 (by decide) dX6_level_35 (fun c15 h => ?_) (fun c15 h => ?_)
      · refine j_iload_n C 2 rfl rfl dX6_level_92 ?_
        refine j_iconst C dX6_level_93 ?_
        refine j_icmp_eq C h 101 (by decide) dX6_level_94 (fun c11 h => ?_) (fun c11 h => ?_)
        · refine j_lv [2] rfl ?_
          exact J101 l2 mod_thrown mod_marks mod_whence mod_by mod_leads mod_comes h
        · refine j_iload_n C 3 rfl rfl dX6_level_97 ?_
          refine j_if_ne C h 112 (by decide) dX6_level_98 (fun c10 h => ?_) (fun c10 h => ?_)
          · refine j_aload_n C 0 rfl rfl dX6_level_112 ?_
            refine j_iload_n C 2 rfl rfl dX6_level_113 ?_
            obtain ⟨r7, hr7, h⟩ := Ob_of h
            refine q_X6_99 C (wc := (mW b gm mod_thrown mod_places mod_firings mod_fired mod_logged mod_tokens mod_weights mod_logs mod_marks mod_whence mod_by mod_leads mod_comes mod_costs mod_next mod_found)) (wc' := (mW b gm mod_thrown mod_places mod_firings mod_fired mod_logged mod_tokens mod_weights mod_logs mod_marks mod_whence mod_by mod_leads r7 mod_costs mod_next mod_found)) (c_X6_spread l D b gm mod_thrown mod_places mod_firings mod_fired mod_logged mod_tokens mod_weights mod_logs mod_marks mod_whence mod_by mod_leads mod_comes mod_costs mod_next mod_found l2 r7 hr7) ⟨(Nat.le_of_ble_eq_true rfl), (Nat.le_of_ble_eq_true rfl)⟩ rfl rfl 0 rfl rfl (ww _) (ww _) mW_ha C.2.2.2.2.2.2.1 (Nat.le_of_ble_eq_true rfl) rfl rfl (Nat.zero_le _) (Nat.zero_le _) dX6_level_114 ?_
            refine j_aload_n C 0 rfl rfl dX6_level_117 ?_
            refine j_iload_n C 2 rfl rfl dX6_level_118 ?_
            obtain ⟨r8, hr8, h⟩ := Ob_of h
            refine q_X6_103 C (wc := (mW b gm mod_thrown mod_places mod_firings mod_fired mod_logged mod_tokens mod_weights mod_logs mod_marks mod_whence mod_by mod_leads r7 mod_costs mod_next mod_found)) (wc' := (mW b gm mod_thrown mod_places mod_firings mod_fired mod_logged mod_tokens mod_weights mod_logs mod_marks mod_whence mod_by mod_leads r7 mod_costs mod_next mod_found)) (c_X6_allCome l D b gm mod_thrown mod_places mod_firings mod_fired mod_logged mod_tokens mod_weights mod_logs mod_marks mod_whence mod_by mod_leads r7 mod_costs mod_next mod_found l2 r8 hr8) ⟨(Nat.le_of_ble_eq_true rfl), (Nat.le_of_ble_eq_true rfl)⟩ rfl rfl 0 rfl rfl (ww _) (ww _) rfl C.2.2.2.2.2.2.1 (Nat.le_of_ble_eq_true rfl) rfl rfl (Nat.zero_le _) (Nat.zero_le _) dX6_level_119 ?_
            refine j_if_eq C h 129 (by decide) dX6_level_122 (fun c9 h => ?_) (fun c9 h => ?_)
            · refine j_iconst C dX6_level_129 ?_
              cases h
              exact RET _ _ dX6_level_130
            · refine j_iconst C dX6_level_125 ?_
              refine j_goto C 130 (by decide) dX6_level_126 ?_
              cases h
              exact RET _ _ dX6_level_130
          · refine j_lv [2] rfl ?_
            exact J101 l2 mod_thrown mod_marks mod_whence mod_by mod_leads mod_comes h
      · refine j_aload_n C 0 rfl rfl dX6_level_38 ?_
        refine g_X6_31 C (v := .ref (b 8)) 0 rfl rfl dX6_level_39 ?_
        refine j_iload C 4 rfl dX6_level_42 ?_
        refine j_aload_n C 0 rfl rfl dX6_level_44 ?_
        refine g_X6_28 C (v := .ref (b 7)) 0 rfl rfl dX6_level_45 ?_
        refine j_bipush C (by decide) dX6_level_48 ?_
        refine j_iload C 4 rfl dX6_level_50 ?_
        refine j_imul C dX6_level_52 ?_
        refine j_iload_n C 1 rfl rfl dX6_level_53 ?_
        refine j_iadd C dX6_level_54 ?_
        refine j_nm h (fun v12 h => ?_)
        refine j_iald C 7 6 rfl rfl (Nat.le_of_ble_eq_true rfl) h dX6_level_55 (fun v13 h => ?_)
        refine j_iconst C dX6_level_56 ?_
        refine j_icmp_eq C h 64 (by decide) dX6_level_57 (fun c14 h => ?_) (fun c14 h => ?_)
        · refine j_iconst C dX6_level_64 ?_
          exact J65 l1 l2 l3 l4 l4 0 mod_thrown mod_marks mod_whence mod_by mod_leads mod_comes h
        · refine j_iconst C dX6_level_60 ?_
          refine j_goto C 65 (by decide) dX6_level_61 ?_
          exact J65 l1 l2 l3 l4 l4 1 mod_thrown mod_marks mod_whence mod_by mod_leads mod_comes h
  have J14 : ∀ (l1 : Int) (s1 : Int) (mod_thrown : Int) (mod_marks : Nat → Int) (mod_whence : Nat → Int) (mod_by : Nat → Int) (mod_leads : Nat → Int) (mod_comes : Nat → Int), F_X6_level_b14 mod_places mod_firings mod_tokens mod_weights l1 s1 mod_thrown mod_marks mod_whence mod_by mod_leads mod_comes = some res → J p l e ({ frames := 4, cells := 0, slots := 0, locals := 97 } : Room) s m args below meth c D A 5 Q 0 0 (mW b gm mod_thrown mod_places mod_firings mod_fired mod_logged mod_tokens mod_weights mod_logs mod_marks mod_whence mod_by mod_leads mod_comes mod_costs mod_next mod_found) 14 [(0, .ref (b 0)), (1, .int (vI l1))] [.int (vI s1), .ref (b 0)] := by
    intro l1 s1 mod_thrown mod_marks mod_whence mod_by mod_leads mod_comes h
    unfold F_X6_level_b14 at h
    obtain ⟨r16, hr16, h⟩ := Ob_of h
    refine q_X6_58 C (wc := (mW b gm mod_thrown mod_places mod_firings mod_fired mod_logged mod_tokens mod_weights mod_logs mod_marks mod_whence mod_by mod_leads mod_comes mod_costs mod_next mod_found)) (wc' := (mW b gm r16.2 mod_places mod_firings mod_fired mod_logged mod_tokens mod_weights mod_logs mod_marks mod_whence mod_by mod_leads mod_comes mod_costs mod_next mod_found)) (c_X6_goesWell l D b gm mod_thrown mod_places mod_firings mod_fired mod_logged mod_tokens mod_weights mod_logs mod_marks mod_whence mod_by mod_leads mod_comes mod_costs mod_next mod_found s1 r16 hr16) ⟨(Nat.le_of_ble_eq_true rfl), (Nat.le_of_ble_eq_true rfl)⟩ rfl rfl 0 rfl rfl (ww _) (ww _) mW_ha C.2.2.2.2.2.2.1 (Nat.le_of_ble_eq_true rfl) rfl rfl (Nat.zero_le _) (Nat.zero_le _) dX6_level_14 ?_
    refine j_if_ne C h 22 (by decide) dX6_level_17 (fun c18 h => ?_) (fun c18 h => ?_)
    · refine j_aload_n C 0 rfl rfl dX6_level_22 ?_
      obtain ⟨r17, hr17, h⟩ := Ob_of h
      refine q_X6_91 C (wc := (mW b gm r16.2 mod_places mod_firings mod_fired mod_logged mod_tokens mod_weights mod_logs mod_marks mod_whence mod_by mod_leads mod_comes mod_costs mod_next mod_found)) (wc' := (mW b gm r16.2 mod_places mod_firings mod_fired mod_logged mod_tokens mod_weights mod_logs r17.2.1 r17.2.2.1 r17.2.2.2.1 r17.2.2.2.2 mod_comes mod_costs mod_next mod_found)) (c_X6_findAll l D b gm r16.2 mod_places mod_firings mod_fired mod_logged mod_tokens mod_weights mod_logs mod_marks mod_whence mod_by mod_leads mod_comes mod_costs mod_next mod_found r17 hr17) ⟨(Nat.le_of_ble_eq_true rfl), (Nat.le_of_ble_eq_true rfl)⟩ rfl rfl 0 rfl rfl (ww _) (ww _) mW_ha C.2.2.2.2.2.2.1 (Nat.le_of_ble_eq_true rfl) rfl rfl (Nat.zero_le _) (Nat.zero_le _) dX6_level_23 ?_
      refine j_istore_n C [(2, .int (vI r17.1)), (0, .ref (b 0)), (1, .int (vI l1))] rfl rfl (by decide) dX6_level_26 ?_
      refine j_iconst C dX6_level_27 ?_
      refine j_istore_n C [(3, .int (vI 0)), (2, .int (vI r17.1)), (0, .ref (b 0)), (1, .int (vI l1))] rfl rfl (by decide) dX6_level_28 ?_
      refine j_iconst C dX6_level_29 ?_
      refine j_istore C [(4, .int (vI 0)), (3, .int (vI 0)), (2, .int (vI r17.1)), (0, .ref (b 0)), (1, .int (vI l1))] rfl (by decide) dX6_level_30 ?_
      refine j_lv [3, 4, 2, 1, 0] rfl ?_
      exact J32 NN l1 r17.1 0 0 r16.2 r17.2.1 r17.2.2.1 r17.2.2.2.1 r17.2.2.2.2 mod_comes h
    · refine j_iconst C dX6_level_20 ?_
      cases h
      exact RET _ _ dX6_level_21
  unfold F_X6_level at h
  refine j_aload_n C 0 rfl rfl dX6_level_0 ?_
  refine j_aload_n C 0 rfl rfl dX6_level_1 ?_
  refine j_iload_n C 1 rfl rfl dX6_level_2 ?_
  obtain ⟨r19, hr19, h⟩ := Ob_of h
  refine q_X6_62 C (wc := (mW b gm mod_thrown mod_places mod_firings mod_fired mod_logged mod_tokens mod_weights mod_logs mod_marks mod_whence mod_by mod_leads mod_comes mod_costs mod_next mod_found)) (wc' := (mW b gm mod_thrown mod_places mod_firings mod_fired mod_logged mod_tokens mod_weights mod_logs mod_marks mod_whence mod_by mod_leads mod_comes mod_costs mod_next mod_found)) (c_X6_isFiring l D b gm mod_thrown mod_places mod_firings mod_fired mod_logged mod_tokens mod_weights mod_logs mod_marks mod_whence mod_by mod_leads mod_comes mod_costs mod_next mod_found x1 r19 hr19) ⟨(Nat.le_of_ble_eq_true rfl), (Nat.le_of_ble_eq_true rfl)⟩ rfl rfl 0 rfl rfl (ww _) (ww _) rfl C.2.2.2.2.2.2.1 (Nat.le_of_ble_eq_true rfl) rfl rfl (Nat.zero_le _) (Nat.zero_le _) dX6_level_3 ?_
  refine j_if_eq C h 13 (by decide) dX6_level_6 (fun c20 h => ?_) (fun c20 h => ?_)
  · refine j_iconst C dX6_level_13 ?_
    exact J14 x1 1 mod_thrown mod_marks mod_whence mod_by mod_leads mod_comes h
  · refine j_iconst C dX6_level_9 ?_
    refine j_goto C 14 (by decide) dX6_level_10 ?_
    exact J14 x1 0 mod_thrown mod_marks mod_whence mod_by mod_leads mod_comes h
theorem c_X6_level (l : Launch) (D : va_G) (b : Nat → Nat) (gm : Nat → ClassId) (mod_thrown : Int) (mod_places : Int) (mod_firings : Int) (mod_fired : Int) (mod_logged : Int) (mod_tokens : Nat → Int) (mod_weights : Nat → Int) (mod_logs : Nat → Int) (mod_marks : Nat → Int) (mod_whence : Nat → Int) (mod_by : Nat → Int) (mod_leads : Nat → Int) (mod_comes : Nat → Int) (mod_costs : Nat → Int) (mod_next : Nat → Int) (mod_found : Nat → Int) (x1 : Int) (res : Int × (Int) × (Nat → Int) × (Nat → Int) × (Nat → Int) × (Nat → Int) × (Nat → Int)) (h : F_X6_level x1 mod_places mod_firings mod_tokens mod_weights mod_thrown mod_marks mod_whence mod_by mod_leads mod_comes = some res) : Kt l yX6_level cX6_level 5 (some .int) ({ frames := 4, cells := 0, slots := 0, locals := 97 } : Room) D (mT gm) [.ref (b 0), .int (vI x1)] (mW b gm mod_thrown mod_places mod_firings mod_fired mod_logged mod_tokens mod_weights mod_logs mod_marks mod_whence mod_by mod_leads mod_comes mod_costs mod_next mod_found) (mW b gm res.2.1 mod_places mod_firings mod_fired mod_logged mod_tokens mod_weights mod_logs res.2.2.1 res.2.2.2.1 res.2.2.2.2.1 res.2.2.2.2.2.1 res.2.2.2.2.2.2 mod_costs mod_next mod_found) (some (.int (vI res.1))) :=
  kt_i (ty := .int) rfl rfl (by decide +kernel) (Nat.le_of_ble_eq_true rfl) (fun C RET => k_X6_level C x1 res h RET)
set_option maxRecDepth 100000 in
set_option maxHeartbeats 4000000 in
theorem k_X6_wished {b : Nat → Nat} {gm : Nat → ClassId} {mod_thrown : Int} {mod_places : Int} {mod_firings : Int} {mod_fired : Int} {mod_logged : Int} {mod_tokens : Nat → Int} {mod_weights : Nat → Int} {mod_logs : Nat → Int} {mod_marks : Nat → Int} {mod_whence : Nat → Int} {mod_by : Nat → Int} {mod_leads : Nat → Int} {mod_comes : Nat → Int} {mod_costs : Nat → Int} {mod_next : Nat → Int} {mod_found : Nat → Int} (C : JC p s m args meth c cX6_wished 5 "MarkingHallModel" D (mT gm) A) (x1 : Int) (x2 : Int) (res : Int × (Nat → Int) × (Nat → Int) × (Nat → Int) × (Nat → Int)) (h : F_X6_wished x1 x2 mod_places mod_firings mod_tokens mod_weights mod_marks mod_whence mod_by mod_leads = some res) (RET : ∀ (pc : Nat) (lv : List (Nat × Value)), decode cX6_wished pc = .ok (.ireturn, 1) → J p l e ({ frames := 4, cells := 0, slots := 0, locals := 97 } : Room) s m args below meth c D A 5 Q 0 0 (mW b gm mod_thrown mod_places mod_firings mod_fired mod_logged mod_tokens mod_weights mod_logs res.2.1 res.2.2.1 res.2.2.2.1 res.2.2.2.2 mod_comes mod_costs mod_next mod_found) pc lv [.int (vI res.1)]) : J p l e ({ frames := 4, cells := 0, slots := 0, locals := 97 } : Room) s m args below meth c D A 5 Q 0 0 (mW b gm mod_thrown mod_places mod_firings mod_fired mod_logged mod_tokens mod_weights mod_logs mod_marks mod_whence mod_by mod_leads mod_comes mod_costs mod_next mod_found) 0 [(0, .ref (b 0)), (1, .int (vI x1)), (2, .int (vI x2))] [] := by
  have J8 : ∀ (n : Nat) (l1 : Int) (l2 : Int) (l3 : Int) (l4 : Int) (mod_marks : Nat → Int) (mod_whence : Nat → Int) (mod_by : Nat → Int) (mod_leads : Nat → Int), F_X6_wished_b8 mod_places mod_firings mod_tokens mod_weights n l1 l2 l3 l4 mod_marks mod_whence mod_by mod_leads = some res → J p l e ({ frames := 4, cells := 0, slots := 0, locals := 97 } : Room) s m args below meth c D A 5 Q 0 0 (mW b gm mod_thrown mod_places mod_firings mod_fired mod_logged mod_tokens mod_weights mod_logs mod_marks mod_whence mod_by mod_leads mod_comes mod_costs mod_next mod_found) 8 [(0, .ref (b 0)), (1, .int (vI l1)), (2, .int (vI l2)), (3, .int (vI l3)), (4, .int (vI l4))] [] := by
    intro n
    induction n with
    | zero => intro l1 l2 l3 l4 mod_marks mod_whence mod_by mod_leads h; exact no_h h
    | succ n ih8 =>
      intro l1 l2 l3 l4 mod_marks mod_whence mod_by mod_leads h
      replace h : F_X6_wished_b8_body mod_places mod_firings mod_tokens mod_weights (F_X6_wished_b8 mod_places mod_firings mod_tokens mod_weights n) l1 l2 l3 l4 mod_marks mod_whence mod_by mod_leads = some res := h
      generalize F_X6_wished_b8 mod_places mod_firings mod_tokens mod_weights n = ag8 at ih8 h
      unfold F_X6_wished_b8_body at h
      refine j_iload C 4 rfl dX6_wished_8 ?_
      refine j_iload_n C 3 rfl rfl dX6_wished_10 ?_
      refine j_icmp_ge C h 39 (by decide) dX6_wished_11 (fun c5 h => ?_) (fun c5 h => ?_)
      · refine j_iconst C dX6_wished_39 ?_
        cases h
        exact RET _ _ dX6_wished_40
      · refine j_aload_n C 0 rfl rfl dX6_wished_14 ?_
        refine g_X6_19 C (v := .ref (b 4)) 0 rfl rfl dX6_wished_15 ?_
        refine j_bipush C (by decide) dX6_wished_18 ?_
        refine j_iload C 4 rfl dX6_wished_20 ?_
        refine j_imul C dX6_wished_22 ?_
        refine j_iload_n C 1 rfl rfl dX6_wished_23 ?_
        refine j_iadd C dX6_wished_24 ?_
        refine j_nm h (fun v1 h => ?_)
        refine j_iald C 4 3 rfl rfl (Nat.le_of_ble_eq_true rfl) h dX6_wished_25 (fun v2 h => ?_)
        refine j_iload_n C 2 rfl rfl dX6_wished_26 ?_
        refine j_icmp_lt C h 33 (by decide) dX6_wished_27 (fun c4 h => ?_) (fun c4 h => ?_)
        · refine j_iinc C 4 rfl (fun v => [(4, .int (vI v)), (0, .ref (b 0)), (1, .int (vI l1)), (2, .int (vI l2)), (3, .int (vI l3))]) (fun _ => rfl) (by decide) h dX6_wished_33 (fun v3 h => ?_)
          refine j_goto C 8 (by decide) dX6_wished_36 ?_
          refine j_lv [1, 2, 3, 4, 0] rfl ?_
          exact ih8 l1 l2 l3 v3 mod_marks mod_whence mod_by mod_leads h
        · refine j_iload C 4 rfl dX6_wished_30 ?_
          cases h
          exact RET _ _ dX6_wished_32
  unfold F_X6_wished at h
  refine j_aload_n C 0 rfl rfl dX6_wished_0 ?_
  obtain ⟨r6, hr6, h⟩ := Ob_of h
  refine q_X6_91 C (wc := (mW b gm mod_thrown mod_places mod_firings mod_fired mod_logged mod_tokens mod_weights mod_logs mod_marks mod_whence mod_by mod_leads mod_comes mod_costs mod_next mod_found)) (wc' := (mW b gm mod_thrown mod_places mod_firings mod_fired mod_logged mod_tokens mod_weights mod_logs r6.2.1 r6.2.2.1 r6.2.2.2.1 r6.2.2.2.2 mod_comes mod_costs mod_next mod_found)) (c_X6_findAll l D b gm mod_thrown mod_places mod_firings mod_fired mod_logged mod_tokens mod_weights mod_logs mod_marks mod_whence mod_by mod_leads mod_comes mod_costs mod_next mod_found r6 hr6) ⟨(Nat.le_of_ble_eq_true rfl), (Nat.le_of_ble_eq_true rfl)⟩ rfl rfl 0 rfl rfl (ww _) (ww _) mW_ha C.2.2.2.2.2.2.1 (Nat.le_of_ble_eq_true rfl) rfl rfl (Nat.zero_le _) (Nat.zero_le _) dX6_wished_1 ?_
  refine j_istore_n C [(3, .int (vI r6.1)), (0, .ref (b 0)), (1, .int (vI x1)), (2, .int (vI x2))] rfl rfl (by decide) dX6_wished_4 ?_
  refine j_iconst C dX6_wished_5 ?_
  refine j_istore C [(4, .int (vI 0)), (3, .int (vI r6.1)), (0, .ref (b 0)), (1, .int (vI x1)), (2, .int (vI x2))] rfl (by decide) dX6_wished_6 ?_
  refine j_lv [2, 3, 4, 1, 0] rfl ?_
  exact J8 NN x1 x2 r6.1 0 r6.2.1 r6.2.2.1 r6.2.2.2.1 r6.2.2.2.2 h
theorem c_X6_wished (l : Launch) (D : va_G) (b : Nat → Nat) (gm : Nat → ClassId) (mod_thrown : Int) (mod_places : Int) (mod_firings : Int) (mod_fired : Int) (mod_logged : Int) (mod_tokens : Nat → Int) (mod_weights : Nat → Int) (mod_logs : Nat → Int) (mod_marks : Nat → Int) (mod_whence : Nat → Int) (mod_by : Nat → Int) (mod_leads : Nat → Int) (mod_comes : Nat → Int) (mod_costs : Nat → Int) (mod_next : Nat → Int) (mod_found : Nat → Int) (x1 : Int) (x2 : Int) (res : Int × (Nat → Int) × (Nat → Int) × (Nat → Int) × (Nat → Int)) (h : F_X6_wished x1 x2 mod_places mod_firings mod_tokens mod_weights mod_marks mod_whence mod_by mod_leads = some res) : Kt l yX6_wished cX6_wished 5 (some .int) ({ frames := 4, cells := 0, slots := 0, locals := 97 } : Room) D (mT gm) [.ref (b 0), .int (vI x1), .int (vI x2)] (mW b gm mod_thrown mod_places mod_firings mod_fired mod_logged mod_tokens mod_weights mod_logs mod_marks mod_whence mod_by mod_leads mod_comes mod_costs mod_next mod_found) (mW b gm mod_thrown mod_places mod_firings mod_fired mod_logged mod_tokens mod_weights mod_logs res.2.1 res.2.2.1 res.2.2.2.1 res.2.2.2.2 mod_comes mod_costs mod_next mod_found) (some (.int (vI res.1))) :=
  kt_i (ty := .int) rfl rfl (by decide +kernel) (Nat.le_of_ble_eq_true rfl) (fun C RET => k_X6_wished C x1 x2 res h RET)
set_option maxRecDepth 100000 in
set_option maxHeartbeats 4000000 in
theorem k_X6_lengthTo {b : Nat → Nat} {gm : Nat → ClassId} {mod_thrown : Int} {mod_places : Int} {mod_firings : Int} {mod_fired : Int} {mod_logged : Int} {mod_tokens : Nat → Int} {mod_weights : Nat → Int} {mod_logs : Nat → Int} {mod_marks : Nat → Int} {mod_whence : Nat → Int} {mod_by : Nat → Int} {mod_leads : Nat → Int} {mod_comes : Nat → Int} {mod_costs : Nat → Int} {mod_next : Nat → Int} {mod_found : Nat → Int} (C : JC p s m args meth c cX6_lengthTo 4 "MarkingHallModel" D (mT gm) A) (x1 : Int) (res : Int) (h : F_X6_lengthTo x1 mod_whence = some res) (RET : ∀ (pc : Nat) (lv : List (Nat × Value)), decode cX6_lengthTo pc = .ok (.ireturn, 1) → J p l e ({ frames := 0, cells := 0, slots := 0, locals := 0 } : Room) s m args below meth c D A 4 Q 0 0 (mW b gm mod_thrown mod_places mod_firings mod_fired mod_logged mod_tokens mod_weights mod_logs mod_marks mod_whence mod_by mod_leads mod_comes mod_costs mod_next mod_found) pc lv [.int (vI res)]) : J p l e ({ frames := 0, cells := 0, slots := 0, locals := 0 } : Room) s m args below meth c D A 4 Q 0 0 (mW b gm mod_thrown mod_places mod_firings mod_fired mod_logged mod_tokens mod_weights mod_logs mod_marks mod_whence mod_by mod_leads mod_comes mod_costs mod_next mod_found) 0 [(0, .ref (b 0)), (1, .int (vI x1))] [] := by
  have J4 : ∀ (n : Nat) (l2 : Int) (l3 : Int), F_X6_lengthTo_b4 mod_whence n l2 l3 = some res → J p l e ({ frames := 0, cells := 0, slots := 0, locals := 0 } : Room) s m args below meth c D A 4 Q 0 0 (mW b gm mod_thrown mod_places mod_firings mod_fired mod_logged mod_tokens mod_weights mod_logs mod_marks mod_whence mod_by mod_leads mod_comes mod_costs mod_next mod_found) 4 [(0, .ref (b 0)), (2, .int (vI l2)), (3, .int (vI l3))] [] := by
    intro n
    induction n with
    | zero => intro l2 l3 h; exact no_h h
    | succ n ih4 =>
      intro l2 l3 h
      replace h : F_X6_lengthTo_b4_body mod_whence (F_X6_lengthTo_b4 mod_whence n) l2 l3 = some res := h
      generalize F_X6_lengthTo_b4 mod_whence n = ag4 at ih4 h
      unfold F_X6_lengthTo_b4_body at h
      refine j_iload_n C 2 rfl rfl dX6_lengthTo_4 ?_
      refine j_if_le C h 21 (by decide) dX6_lengthTo_5 (fun c3 h => ?_) (fun c3 h => ?_)
      · refine j_iload_n C 1 rfl rfl dX6_lengthTo_21 ?_
        cases h
        exact RET _ _ dX6_lengthTo_22
      · refine j_iinc C 1 rfl (fun v => [(2, .int (vI v)), (0, .ref (b 0)), (3, .int (vI l3))]) (fun _ => rfl) (by decide) h dX6_lengthTo_8 (fun v1 h => ?_)
        refine j_aload_n C 1 rfl rfl dX6_lengthTo_11 ?_
        refine g_X6_22 C (v := .ref (b 5)) 0 rfl rfl dX6_lengthTo_12 ?_
        refine j_iload_n C 2 rfl rfl dX6_lengthTo_15 ?_
        refine j_iald C 5 4 rfl rfl (Nat.le_of_ble_eq_true rfl) h dX6_lengthTo_16 (fun v2 h => ?_)
        refine j_istore_n C [(3, .int (vI v2)), (2, .int (vI v1)), (0, .ref (b 0))] rfl rfl (by decide) dX6_lengthTo_17 ?_
        refine j_goto C 4 (by decide) dX6_lengthTo_18 ?_
        refine j_lv [2, 1, 0] rfl ?_
        exact ih4 v1 v2 h
  unfold F_X6_lengthTo at h
  refine j_iconst C dX6_lengthTo_0 ?_
  refine j_istore_n C [(2, .int (vI 0)), (0, .ref (b 0)), (1, .int (vI x1))] rfl rfl (by decide) dX6_lengthTo_1 ?_
  refine j_iload_n C 2 rfl rfl dX6_lengthTo_2 ?_
  refine j_istore_n C [(3, .int (vI x1)), (2, .int (vI 0)), (0, .ref (b 0)), (1, .int (vI x1))] rfl rfl (by decide) dX6_lengthTo_3 ?_
  refine j_lv [2, 1, 0] rfl ?_
  exact J4 NN 0 x1 h
theorem c_X6_lengthTo (l : Launch) (D : va_G) (b : Nat → Nat) (gm : Nat → ClassId) (mod_thrown : Int) (mod_places : Int) (mod_firings : Int) (mod_fired : Int) (mod_logged : Int) (mod_tokens : Nat → Int) (mod_weights : Nat → Int) (mod_logs : Nat → Int) (mod_marks : Nat → Int) (mod_whence : Nat → Int) (mod_by : Nat → Int) (mod_leads : Nat → Int) (mod_comes : Nat → Int) (mod_costs : Nat → Int) (mod_next : Nat → Int) (mod_found : Nat → Int) (x1 : Int) (res : Int) (h : F_X6_lengthTo x1 mod_whence = some res) : Kt l yX6_lengthTo cX6_lengthTo 4 (some .int) ({ frames := 0, cells := 0, slots := 0, locals := 0 } : Room) D (mT gm) [.ref (b 0), .int (vI x1)] (mW b gm mod_thrown mod_places mod_firings mod_fired mod_logged mod_tokens mod_weights mod_logs mod_marks mod_whence mod_by mod_leads mod_comes mod_costs mod_next mod_found) (mW b gm mod_thrown mod_places mod_firings mod_fired mod_logged mod_tokens mod_weights mod_logs mod_marks mod_whence mod_by mod_leads mod_comes mod_costs mod_next mod_found) (some (.int (vI res))) :=
  kt_i (ty := .int) rfl rfl (by decide +kernel) (Nat.le_of_ble_eq_true rfl) (fun C RET => k_X6_lengthTo C x1 res h RET)
set_option maxRecDepth 100000 in
set_option maxHeartbeats 4000000 in
theorem k_X6_way {b : Nat → Nat} {gm : Nat → ClassId} {mod_thrown : Int} {mod_places : Int} {mod_firings : Int} {mod_fired : Int} {mod_logged : Int} {mod_tokens : Nat → Int} {mod_weights : Nat → Int} {mod_logs : Nat → Int} {mod_marks : Nat → Int} {mod_whence : Nat → Int} {mod_by : Nat → Int} {mod_leads : Nat → Int} {mod_comes : Nat → Int} {mod_costs : Nat → Int} {mod_next : Nat → Int} {mod_found : Nat → Int} (C : JC p s m args meth c cX6_way 5 "MarkingHallModel" D (mT gm) A) (x1 : Int) (x2 : Int) (res : Int × (Int) × (Nat → Int) × (Nat → Int) × (Nat → Int) × (Nat → Int)) (h : F_X6_way x1 x2 mod_places mod_firings mod_tokens mod_weights mod_thrown mod_marks mod_whence mod_by mod_leads = some res) (RET : ∀ (pc : Nat) (lv : List (Nat × Value)), decode cX6_way pc = .ok (.ireturn, 1) → J p l e ({ frames := 5, cells := 0, slots := 0, locals := 121 } : Room) s m args below meth c D A 5 Q 0 0 (mW b gm res.2.1 mod_places mod_firings mod_fired mod_logged mod_tokens mod_weights mod_logs res.2.2.1 res.2.2.2.1 res.2.2.2.2.1 res.2.2.2.2.2 mod_comes mod_costs mod_next mod_found) pc lv [.int (vI res.1)]) : J p l e ({ frames := 5, cells := 0, slots := 0, locals := 121 } : Room) s m args below meth c D A 5 Q 0 0 (mW b gm mod_thrown mod_places mod_firings mod_fired mod_logged mod_tokens mod_weights mod_logs mod_marks mod_whence mod_by mod_leads mod_comes mod_costs mod_next mod_found) 0 [(0, .ref (b 0)), (1, .int (vI x1)), (2, .int (vI x2))] [] := by
  have J30 : ∀ (l1 : Int) (l2 : Int) (s1 : Int) (mod_thrown : Int) (mod_marks : Nat → Int) (mod_whence : Nat → Int) (mod_by : Nat → Int) (mod_leads : Nat → Int), F_X6_way_b30 mod_places mod_firings mod_tokens mod_weights l1 l2 s1 mod_thrown mod_marks mod_whence mod_by mod_leads = some res → J p l e ({ frames := 5, cells := 0, slots := 0, locals := 121 } : Room) s m args below meth c D A 5 Q 0 0 (mW b gm mod_thrown mod_places mod_firings mod_fired mod_logged mod_tokens mod_weights mod_logs mod_marks mod_whence mod_by mod_leads mod_comes mod_costs mod_next mod_found) 30 [(0, .ref (b 0)), (1, .int (vI l1)), (2, .int (vI l2))] [.int (vI s1), .ref (b 0)] := by
    intro l1 l2 s1 mod_thrown mod_marks mod_whence mod_by mod_leads h
    unfold F_X6_way_b30 at h
    obtain ⟨r1, hr1, h⟩ := Ob_of h
    refine q_X6_58 C (wc := (mW b gm mod_thrown mod_places mod_firings mod_fired mod_logged mod_tokens mod_weights mod_logs mod_marks mod_whence mod_by mod_leads mod_comes mod_costs mod_next mod_found)) (wc' := (mW b gm r1.2 mod_places mod_firings mod_fired mod_logged mod_tokens mod_weights mod_logs mod_marks mod_whence mod_by mod_leads mod_comes mod_costs mod_next mod_found)) (c_X6_goesWell l D b gm mod_thrown mod_places mod_firings mod_fired mod_logged mod_tokens mod_weights mod_logs mod_marks mod_whence mod_by mod_leads mod_comes mod_costs mod_next mod_found s1 r1 hr1) ⟨(Nat.le_of_ble_eq_true rfl), (Nat.le_of_ble_eq_true rfl)⟩ rfl rfl 0 rfl rfl (ww _) (ww _) mW_ha C.2.2.2.2.2.2.1 (Nat.le_of_ble_eq_true rfl) rfl rfl (Nat.zero_le _) (Nat.zero_le _) dX6_way_30 ?_
    refine j_if_ne C h 38 (by decide) dX6_way_33 (fun c5 h => ?_) (fun c5 h => ?_)
    · refine j_aload_n C 0 rfl rfl dX6_way_38 ?_
      refine j_iload_n C 1 rfl rfl dX6_way_39 ?_
      refine j_iload_n C 2 rfl rfl dX6_way_40 ?_
      obtain ⟨r2, hr2, h⟩ := Ob_of h
      refine q_X6_110 C (wc := (mW b gm r1.2 mod_places mod_firings mod_fired mod_logged mod_tokens mod_weights mod_logs mod_marks mod_whence mod_by mod_leads mod_comes mod_costs mod_next mod_found)) (wc' := (mW b gm r1.2 mod_places mod_firings mod_fired mod_logged mod_tokens mod_weights mod_logs r2.2.1 r2.2.2.1 r2.2.2.2.1 r2.2.2.2.2 mod_comes mod_costs mod_next mod_found)) (c_X6_wished l D b gm r1.2 mod_places mod_firings mod_fired mod_logged mod_tokens mod_weights mod_logs mod_marks mod_whence mod_by mod_leads mod_comes mod_costs mod_next mod_found l1 l2 r2 hr2) ⟨(Nat.le_of_ble_eq_true rfl), (Nat.le_of_ble_eq_true rfl)⟩ rfl rfl 0 rfl rfl (ww _) (ww _) mW_ha C.2.2.2.2.2.2.1 (Nat.le_of_ble_eq_true rfl) rfl rfl (Nat.zero_le _) (Nat.zero_le _) dX6_way_41 ?_
      refine j_istore C [(4, .int (vI r2.1)), (0, .ref (b 0)), (1, .int (vI l1)), (2, .int (vI l2))] rfl (by decide) dX6_way_44 ?_
      refine j_iload C 0 rfl dX6_way_46 ?_
      refine j_iconst C dX6_way_48 ?_
      refine j_icmp_ne C h 56 (by decide) dX6_way_49 (fun c4 h => ?_) (fun c4 h => ?_)
      · refine j_aload_n C 1 rfl rfl dX6_way_56 ?_
        refine j_iload C 0 rfl dX6_way_57 ?_
        obtain ⟨r3, hr3, h⟩ := Ob_of h
        refine q_X6_113 C (wc := (mW b gm r1.2 mod_places mod_firings mod_fired mod_logged mod_tokens mod_weights mod_logs r2.2.1 r2.2.2.1 r2.2.2.2.1 r2.2.2.2.2 mod_comes mod_costs mod_next mod_found)) (wc' := (mW b gm r1.2 mod_places mod_firings mod_fired mod_logged mod_tokens mod_weights mod_logs r2.2.1 r2.2.2.1 r2.2.2.2.1 r2.2.2.2.2 mod_comes mod_costs mod_next mod_found)) (c_X6_lengthTo l D b gm r1.2 mod_places mod_firings mod_fired mod_logged mod_tokens mod_weights mod_logs r2.2.1 r2.2.2.1 r2.2.2.2.1 r2.2.2.2.2 mod_comes mod_costs mod_next mod_found r2.1 r3 hr3) ⟨(Nat.le_of_ble_eq_true rfl), (Nat.le_of_ble_eq_true rfl)⟩ rfl rfl 0 rfl rfl (ww _) (ww _) rfl C.2.2.2.2.2.2.1 (Nat.le_of_ble_eq_true rfl) rfl rfl (Nat.zero_le _) (Nat.zero_le _) dX6_way_59 ?_
        cases h
        exact RET _ _ dX6_way_62
      · refine j_iconst C dX6_way_52 ?_
        refine j_goto C 62 (by decide) dX6_way_53 ?_
        cases h
        exact RET _ _ dX6_way_62
    · refine j_iconst C dX6_way_36 ?_
      cases h
      exact RET _ _ dX6_way_37
  unfold F_X6_way at h
  refine j_aload_n C 0 rfl rfl dX6_way_0 ?_
  refine j_iload_n C 1 rfl rfl dX6_way_1 ?_
  obtain ⟨r6, hr6, h⟩ := Ob_of h
  refine q_X6_65 C (wc := (mW b gm mod_thrown mod_places mod_firings mod_fired mod_logged mod_tokens mod_weights mod_logs mod_marks mod_whence mod_by mod_leads mod_comes mod_costs mod_next mod_found)) (wc' := (mW b gm mod_thrown mod_places mod_firings mod_fired mod_logged mod_tokens mod_weights mod_logs mod_marks mod_whence mod_by mod_leads mod_comes mod_costs mod_next mod_found)) (c_X6_isPlace l D b gm mod_thrown mod_places mod_firings mod_fired mod_logged mod_tokens mod_weights mod_logs mod_marks mod_whence mod_by mod_leads mod_comes mod_costs mod_next mod_found x1 r6 hr6) ⟨(Nat.le_of_ble_eq_true rfl), (Nat.le_of_ble_eq_true rfl)⟩ rfl rfl 0 rfl rfl (ww _) (ww _) rfl C.2.2.2.2.2.2.1 (Nat.le_of_ble_eq_true rfl) rfl rfl (Nat.zero_le _) (Nat.zero_le _) dX6_way_2 ?_
  refine j_istore_n C [(3, .int (vI r6)), (0, .ref (b 0)), (1, .int (vI x1)), (2, .int (vI x2))] rfl rfl (by decide) dX6_way_5 ?_
  refine j_aload_n C 1 rfl rfl dX6_way_6 ?_
  refine j_iload_n C 0 rfl rfl dX6_way_7 ?_
  refine j_if_ne C h 15 (by decide) dX6_way_8 (fun c9 h => ?_) (fun c9 h => ?_)
  · refine j_iload_n C 3 rfl rfl dX6_way_15 ?_
    refine j_iconst C dX6_way_16 ?_
    refine j_bipush C (by decide) dX6_way_17 ?_
    obtain ⟨r7, hr7, h⟩ := Ob_of h
    refine q_X6_51 C (wc := (mW b gm mod_thrown mod_places mod_firings mod_fired mod_logged mod_tokens mod_weights mod_logs mod_marks mod_whence mod_by mod_leads mod_comes mod_costs mod_next mod_found)) (wc' := (mW b gm mod_thrown mod_places mod_firings mod_fired mod_logged mod_tokens mod_weights mod_logs mod_marks mod_whence mod_by mod_leads mod_comes mod_costs mod_next mod_found)) (c_X6_in l D _ _ x2 0 99 r7 hr7) ⟨(Nat.le_of_ble_eq_true rfl), (Nat.le_of_ble_eq_true rfl)⟩ rfl rfl rfl (ww _) (ww _) rfl C.2.2.2.2.2.2.1 (Nat.le_of_ble_eq_true rfl) rfl rfl (Nat.zero_le _) (Nat.zero_le _) dX6_way_19 ?_
    refine j_if_eq C h 29 (by decide) dX6_way_22 (fun c8 h => ?_) (fun c8 h => ?_)
    · refine j_iconst C dX6_way_29 ?_
      refine j_lv [1, 2, 3] rfl ?_
      exact J30 x1 x2 2 mod_thrown mod_marks mod_whence mod_by mod_leads h
    · refine j_iconst C dX6_way_25 ?_
      refine j_goto C 30 (by decide) dX6_way_26 ?_
      refine j_lv [1, 2, 3] rfl ?_
      exact J30 x1 x2 0 mod_thrown mod_marks mod_whence mod_by mod_leads h
  · refine j_iconst C dX6_way_11 ?_
    refine j_goto C 30 (by decide) dX6_way_12 ?_
    refine j_lv [1, 2, 3] rfl ?_
    exact J30 x1 x2 1 mod_thrown mod_marks mod_whence mod_by mod_leads h
theorem c_X6_way (l : Launch) (D : va_G) (b : Nat → Nat) (gm : Nat → ClassId) (mod_thrown : Int) (mod_places : Int) (mod_firings : Int) (mod_fired : Int) (mod_logged : Int) (mod_tokens : Nat → Int) (mod_weights : Nat → Int) (mod_logs : Nat → Int) (mod_marks : Nat → Int) (mod_whence : Nat → Int) (mod_by : Nat → Int) (mod_leads : Nat → Int) (mod_comes : Nat → Int) (mod_costs : Nat → Int) (mod_next : Nat → Int) (mod_found : Nat → Int) (x1 : Int) (x2 : Int) (res : Int × (Int) × (Nat → Int) × (Nat → Int) × (Nat → Int) × (Nat → Int)) (h : F_X6_way x1 x2 mod_places mod_firings mod_tokens mod_weights mod_thrown mod_marks mod_whence mod_by mod_leads = some res) : Kt l yX6_way cX6_way 5 (some .int) ({ frames := 5, cells := 0, slots := 0, locals := 121 } : Room) D (mT gm) [.ref (b 0), .int (vI x1), .int (vI x2)] (mW b gm mod_thrown mod_places mod_firings mod_fired mod_logged mod_tokens mod_weights mod_logs mod_marks mod_whence mod_by mod_leads mod_comes mod_costs mod_next mod_found) (mW b gm res.2.1 mod_places mod_firings mod_fired mod_logged mod_tokens mod_weights mod_logs res.2.2.1 res.2.2.2.1 res.2.2.2.2.1 res.2.2.2.2.2 mod_comes mod_costs mod_next mod_found) (some (.int (vI res.1))) :=
  kt_i (ty := .int) rfl rfl (by decide +kernel) (Nat.le_of_ble_eq_true rfl) (fun C RET => k_X6_way C x1 x2 res h RET)
set_option maxRecDepth 100000 in
set_option maxHeartbeats 4000000 in
theorem k_X6_step {b : Nat → Nat} {gm : Nat → ClassId} {mod_thrown : Int} {mod_places : Int} {mod_firings : Int} {mod_fired : Int} {mod_logged : Int} {mod_tokens : Nat → Int} {mod_weights : Nat → Int} {mod_logs : Nat → Int} {mod_marks : Nat → Int} {mod_whence : Nat → Int} {mod_by : Nat → Int} {mod_leads : Nat → Int} {mod_comes : Nat → Int} {mod_costs : Nat → Int} {mod_next : Nat → Int} {mod_found : Nat → Int} (C : JC p s m args meth c cX6_step 8 "MarkingHallModel" D (mT gm) A) (x1 : Int) (x2 : Int) (x3 : Int) (res : Int × (Int) × (Nat → Int) × (Nat → Int) × (Nat → Int) × (Nat → Int)) (h : F_X6_step x1 x2 x3 mod_places mod_firings mod_tokens mod_weights mod_thrown mod_marks mod_whence mod_by mod_leads = some res) (RET : ∀ (pc : Nat) (lv : List (Nat × Value)), decode cX6_step pc = .ok (.ireturn, 1) → J p l e ({ frames := 5, cells := 0, slots := 0, locals := 121 } : Room) s m args below meth c D A 8 Q 0 0 (mW b gm res.2.1 mod_places mod_firings mod_fired mod_logged mod_tokens mod_weights mod_logs res.2.2.1 res.2.2.2.1 res.2.2.2.2.1 res.2.2.2.2.2 mod_comes mod_costs mod_next mod_found) pc lv [.int (vI res.1)]) : J p l e ({ frames := 5, cells := 0, slots := 0, locals := 121 } : Room) s m args below meth c D A 8 Q 0 0 (mW b gm mod_thrown mod_places mod_firings mod_fired mod_logged mod_tokens mod_weights mod_logs mod_marks mod_whence mod_by mod_leads mod_comes mod_costs mod_next mod_found) 0 [(0, .ref (b 0)), (1, .int (vI x1)), (2, .int (vI x2)), (3, .int (vI x3))] [] := by
  have J84 : ∀ (n : Nat) (l3 : Int) (l5 : Int) (l7 : Int) (mod_thrown : Int) (mod_marks : Nat → Int) (mod_whence : Nat → Int) (mod_by : Nat → Int) (mod_leads : Nat → Int), F_X6_step_b84 mod_places mod_firings mod_tokens mod_weights n l3 l5 l7 mod_thrown mod_marks mod_whence mod_by mod_leads = some res → J p l e ({ frames := 5, cells := 0, slots := 0, locals := 121 } : Room) s m args below meth c D A 8 Q 0 0 (mW b gm mod_thrown mod_places mod_firings mod_fired mod_logged mod_tokens mod_weights mod_logs mod_marks mod_whence mod_by mod_leads mod_comes mod_costs mod_next mod_found) 84 [(0, .ref (b 0)), (3, .int (vI l3)), (5, .int (vI l5)), (7, .int (vI l7))] [] := by
    intro n
    induction n with
    | zero => intro l3 l5 l7 mod_thrown mod_marks mod_whence mod_by mod_leads h; exact no_h h
    | succ n ih84 =>
      intro l3 l5 l7 mod_thrown mod_marks mod_whence mod_by mod_leads h
      replace h : F_X6_step_b84_body mod_places mod_firings mod_tokens mod_weights (F_X6_step_b84 mod_places mod_firings mod_tokens mod_weights n) l3 l5 l7 mod_thrown mod_marks mod_whence mod_by mod_leads = some res := h
      generalize F_X6_step_b84 mod_places mod_firings mod_tokens mod_weights n = ag84 at ih84 h
      unfold F_X6_step_b84_body at h
      refine j_iload C 3 rfl dX6_step_84 ?_
      refine j_iload_n C 1 rfl rfl dX6_step_86 ?_
      refine j_icmp_le C h 105 (by decide) dX6_step_87 (fun c4 h => ?_) (fun c4 h => ?_)
      · refine j_aload_n C 0 rfl rfl dX6_step_105 ?_
        refine g_X6_25 C (v := .ref (b 6)) 0 rfl rfl dX6_step_106 ?_
        refine j_iload C 2 rfl dX6_step_109 ?_
        refine j_iald C 6 5 rfl rfl (Nat.le_of_ble_eq_true rfl) h dX6_step_111 (fun v1 h => ?_)
        cases h
        exact RET _ _ dX6_step_112
      · refine j_aload_n C 0 rfl rfl dX6_step_90 ?_
        refine g_X6_22 C (v := .ref (b 5)) 0 rfl rfl dX6_step_91 ?_
        refine j_iload C 2 rfl dX6_step_94 ?_
        refine j_iald C 5 4 rfl rfl (Nat.le_of_ble_eq_true rfl) h dX6_step_96 (fun v2 h => ?_)
        refine j_istore C [(5, .int (vI v2)), (0, .ref (b 0)), (3, .int (vI l3)), (7, .int (vI l7))] rfl (by decide) dX6_step_97 ?_
        refine j_iinc C 3 rfl (fun v => [(7, .int (vI v)), (5, .int (vI v2)), (0, .ref (b 0)), (3, .int (vI l3))]) (fun _ => rfl) (by decide) h dX6_step_99 (fun v3 h => ?_)
        refine j_goto C 84 (by decide) dX6_step_102 ?_
        refine j_lv [2, 3, 1, 0] rfl ?_
        exact ih84 l3 v2 v3 mod_thrown mod_marks mod_whence mod_by mod_leads h
  have J68 : ∀ (l3 : Int) (l5 : Int) (s0 : Int) (mod_thrown : Int) (mod_marks : Nat → Int) (mod_whence : Nat → Int) (mod_by : Nat → Int) (mod_leads : Nat → Int), F_X6_step_b68 mod_places mod_firings mod_tokens mod_weights l3 l5 s0 mod_thrown mod_marks mod_whence mod_by mod_leads = some res → J p l e ({ frames := 5, cells := 0, slots := 0, locals := 121 } : Room) s m args below meth c D A 8 Q 0 0 (mW b gm mod_thrown mod_places mod_firings mod_fired mod_logged mod_tokens mod_weights mod_logs mod_marks mod_whence mod_by mod_leads mod_comes mod_costs mod_next mod_found) 68 [(0, .ref (b 0)), (3, .int (vI l3)), (5, .int (vI l5))] [.int (vI s0)] := by
    intro l3 l5 s0 mod_thrown mod_marks mod_whence mod_by mod_leads h
    unfold F_X6_step_b68 at h
    refine j_istore C [(6, .int (vI s0)), (0, .ref (b 0)), (3, .int (vI l3)), (5, .int (vI l5))] rfl (by decide) dX6_step_68 ?_
    refine j_iload_n C 2 rfl rfl dX6_step_70 ?_
    refine j_iload C 0 rfl dX6_step_71 ?_
    refine j_icmp_lt C h 78 (by decide) dX6_step_73 (fun c6 h => ?_) (fun c6 h => ?_)
    · refine j_iload C 0 rfl dX6_step_78 ?_
      refine j_iconst C dX6_step_80 ?_
      refine j_isub C dX6_step_81 ?_
      refine j_nm h (fun v5 h => ?_)
      refine j_istore C [(7, .int (vI v5)), (6, .int (vI s0)), (0, .ref (b 0)), (3, .int (vI l3)), (5, .int (vI l5))] rfl (by decide) dX6_step_82 ?_
      refine j_lv [2, 3, 4, 0] rfl ?_
      exact J84 NN l3 l5 v5 mod_thrown mod_marks mod_whence mod_by mod_leads h
    · refine j_iconst C dX6_step_76 ?_
      cases h
      exact RET _ _ dX6_step_77
  have J36 : ∀ (l1 : Int) (l2 : Int) (l3 : Int) (s1 : Int) (mod_thrown : Int) (mod_marks : Nat → Int) (mod_whence : Nat → Int) (mod_by : Nat → Int) (mod_leads : Nat → Int), F_X6_step_b36 mod_places mod_firings mod_tokens mod_weights l1 l2 l3 s1 mod_thrown mod_marks mod_whence mod_by mod_leads = some res → J p l e ({ frames := 5, cells := 0, slots := 0, locals := 121 } : Room) s m args below meth c D A 8 Q 0 0 (mW b gm mod_thrown mod_places mod_firings mod_fired mod_logged mod_tokens mod_weights mod_logs mod_marks mod_whence mod_by mod_leads mod_comes mod_costs mod_next mod_found) 36 [(0, .ref (b 0)), (1, .int (vI l1)), (2, .int (vI l2)), (3, .int (vI l3))] [.int (vI s1), .ref (b 0)] := by
    intro l1 l2 l3 s1 mod_thrown mod_marks mod_whence mod_by mod_leads h
    unfold F_X6_step_b36 at h
    obtain ⟨r7, hr7, h⟩ := Ob_of h
    refine q_X6_58 C (wc := (mW b gm mod_thrown mod_places mod_firings mod_fired mod_logged mod_tokens mod_weights mod_logs mod_marks mod_whence mod_by mod_leads mod_comes mod_costs mod_next mod_found)) (wc' := (mW b gm r7.2 mod_places mod_firings mod_fired mod_logged mod_tokens mod_weights mod_logs mod_marks mod_whence mod_by mod_leads mod_comes mod_costs mod_next mod_found)) (c_X6_goesWell l D b gm mod_thrown mod_places mod_firings mod_fired mod_logged mod_tokens mod_weights mod_logs mod_marks mod_whence mod_by mod_leads mod_comes mod_costs mod_next mod_found s1 r7 hr7) ⟨(Nat.le_of_ble_eq_true rfl), (Nat.le_of_ble_eq_true rfl)⟩ rfl rfl 0 rfl rfl (ww _) (ww _) mW_ha C.2.2.2.2.2.2.1 (Nat.le_of_ble_eq_true rfl) rfl rfl (Nat.zero_le _) (Nat.zero_le _) dX6_step_36 ?_
    refine j_if_ne C h 44 (by decide) dX6_step_39 (fun c11 h => ?_) (fun c11 h => ?_)
    · refine j_aload_n C 0 rfl rfl dX6_step_44 ?_
      refine j_iload_n C 1 rfl rfl dX6_step_45 ?_
      refine j_iload_n C 2 rfl rfl dX6_step_46 ?_
      obtain ⟨r8, hr8, h⟩ := Ob_of h
      refine q_X6_110 C (wc := (mW b gm r7.2 mod_places mod_firings mod_fired mod_logged mod_tokens mod_weights mod_logs mod_marks mod_whence mod_by mod_leads mod_comes mod_costs mod_next mod_found)) (wc' := (mW b gm r7.2 mod_places mod_firings mod_fired mod_logged mod_tokens mod_weights mod_logs r8.2.1 r8.2.2.1 r8.2.2.2.1 r8.2.2.2.2 mod_comes mod_costs mod_next mod_found)) (c_X6_wished l D b gm r7.2 mod_places mod_firings mod_fired mod_logged mod_tokens mod_weights mod_logs mod_marks mod_whence mod_by mod_leads mod_comes mod_costs mod_next mod_found l1 l2 r8 hr8) ⟨(Nat.le_of_ble_eq_true rfl), (Nat.le_of_ble_eq_true rfl)⟩ rfl rfl 0 rfl rfl (ww _) (ww _) mW_ha C.2.2.2.2.2.2.1 (Nat.le_of_ble_eq_true rfl) rfl rfl (Nat.zero_le _) (Nat.zero_le _) dX6_step_47 ?_
      refine j_istore C [(5, .int (vI r8.1)), (0, .ref (b 0)), (1, .int (vI l1)), (2, .int (vI l2)), (3, .int (vI l3))] rfl (by decide) dX6_step_50 ?_
      refine j_iload C 0 rfl dX6_step_52 ?_
      refine j_iconst C dX6_step_54 ?_
      refine j_icmp_ne C h 62 (by decide) dX6_step_55 (fun c10 h => ?_) (fun c10 h => ?_)
      · refine j_aload_n C 1 rfl rfl dX6_step_62 ?_
        refine j_iload C 0 rfl dX6_step_63 ?_
        obtain ⟨r9, hr9, h⟩ := Ob_of h
        refine q_X6_113 C (wc := (mW b gm r7.2 mod_places mod_firings mod_fired mod_logged mod_tokens mod_weights mod_logs r8.2.1 r8.2.2.1 r8.2.2.2.1 r8.2.2.2.2 mod_comes mod_costs mod_next mod_found)) (wc' := (mW b gm r7.2 mod_places mod_firings mod_fired mod_logged mod_tokens mod_weights mod_logs r8.2.1 r8.2.2.1 r8.2.2.2.1 r8.2.2.2.2 mod_comes mod_costs mod_next mod_found)) (c_X6_lengthTo l D b gm r7.2 mod_places mod_firings mod_fired mod_logged mod_tokens mod_weights mod_logs r8.2.1 r8.2.2.1 r8.2.2.2.1 r8.2.2.2.2 mod_comes mod_costs mod_next mod_found r8.1 r9 hr9) ⟨(Nat.le_of_ble_eq_true rfl), (Nat.le_of_ble_eq_true rfl)⟩ rfl rfl 0 rfl rfl (ww _) (ww _) rfl C.2.2.2.2.2.2.1 (Nat.le_of_ble_eq_true rfl) rfl rfl (Nat.zero_le _) (Nat.zero_le _) dX6_step_65 ?_
        refine j_lv [1, 4, 0] rfl ?_
        exact J68 l3 r8.1 r9 r7.2 r8.2.1 r8.2.2.1 r8.2.2.2.1 r8.2.2.2.2 h
      · refine j_iconst C dX6_step_58 ?_
        refine j_goto C 68 (by decide) dX6_step_59 ?_
        refine j_lv [1, 4, 0] rfl ?_
        exact J68 l3 r8.1 0 r7.2 r8.2.1 r8.2.2.1 r8.2.2.2.1 r8.2.2.2.2 h
    · refine j_iconst C dX6_step_42 ?_
      cases h
      exact RET _ _ dX6_step_43
  have J35 : ∀ (l1 : Int) (l2 : Int) (l3 : Int) (mod_thrown : Int) (mod_marks : Nat → Int) (mod_whence : Nat → Int) (mod_by : Nat → Int) (mod_leads : Nat → Int), F_X6_step_b35 mod_places mod_firings mod_tokens mod_weights l1 l2 l3 mod_thrown mod_marks mod_whence mod_by mod_leads = some res → J p l e ({ frames := 5, cells := 0, slots := 0, locals := 121 } : Room) s m args below meth c D A 8 Q 0 0 (mW b gm mod_thrown mod_places mod_firings mod_fired mod_logged mod_tokens mod_weights mod_logs mod_marks mod_whence mod_by mod_leads mod_comes mod_costs mod_next mod_found) 35 [(0, .ref (b 0)), (1, .int (vI l1)), (2, .int (vI l2)), (3, .int (vI l3))] [.ref (b 0)] := by
    intro l1 l2 l3 mod_thrown mod_marks mod_whence mod_by mod_leads h
    unfold F_X6_step_b35 at h
    refine j_iconst C dX6_step_35 ?_
    exact J36 l1 l2 l3 2 mod_thrown mod_marks mod_whence mod_by mod_leads h
  unfold F_X6_step at h
  refine j_aload_n C 0 rfl rfl dX6_step_0 ?_
  refine j_iload_n C 1 rfl rfl dX6_step_1 ?_
  obtain ⟨r12, hr12, h⟩ := Ob_of h
  refine q_X6_65 C (wc := (mW b gm mod_thrown mod_places mod_firings mod_fired mod_logged mod_tokens mod_weights mod_logs mod_marks mod_whence mod_by mod_leads mod_comes mod_costs mod_next mod_found)) (wc' := (mW b gm mod_thrown mod_places mod_firings mod_fired mod_logged mod_tokens mod_weights mod_logs mod_marks mod_whence mod_by mod_leads mod_comes mod_costs mod_next mod_found)) (c_X6_isPlace l D b gm mod_thrown mod_places mod_firings mod_fired mod_logged mod_tokens mod_weights mod_logs mod_marks mod_whence mod_by mod_leads mod_comes mod_costs mod_next mod_found x1 r12 hr12) ⟨(Nat.le_of_ble_eq_true rfl), (Nat.le_of_ble_eq_true rfl)⟩ rfl rfl 0 rfl rfl (ww _) (ww _) rfl C.2.2.2.2.2.2.1 (Nat.le_of_ble_eq_true rfl) rfl rfl (Nat.zero_le _) (Nat.zero_le _) dX6_step_2 ?_
  refine j_istore C [(4, .int (vI r12)), (0, .ref (b 0)), (1, .int (vI x1)), (2, .int (vI x2)), (3, .int (vI x3))] rfl (by decide) dX6_step_5 ?_
  refine j_aload_n C 1 rfl rfl dX6_step_7 ?_
  refine j_iload C 0 rfl dX6_step_8 ?_
  refine j_if_ne C h 17 (by decide) dX6_step_10 (fun c16 h => ?_) (fun c16 h => ?_)
  · refine j_iload_n C 3 rfl rfl dX6_step_17 ?_
    refine j_iconst C dX6_step_18 ?_
    refine j_bipush C (by decide) dX6_step_19 ?_
    obtain ⟨r13, hr13, h⟩ := Ob_of h
    refine q_X6_51 C (wc := (mW b gm mod_thrown mod_places mod_firings mod_fired mod_logged mod_tokens mod_weights mod_logs mod_marks mod_whence mod_by mod_leads mod_comes mod_costs mod_next mod_found)) (wc' := (mW b gm mod_thrown mod_places mod_firings mod_fired mod_logged mod_tokens mod_weights mod_logs mod_marks mod_whence mod_by mod_leads mod_comes mod_costs mod_next mod_found)) (c_X6_in l D _ _ x2 0 99 r13 hr13) ⟨(Nat.le_of_ble_eq_true rfl), (Nat.le_of_ble_eq_true rfl)⟩ rfl rfl rfl (ww _) (ww _) rfl C.2.2.2.2.2.2.1 (Nat.le_of_ble_eq_true rfl) rfl rfl (Nat.zero_le _) (Nat.zero_le _) dX6_step_21 ?_
    refine j_if_eq C h 35 (by decide) dX6_step_24 (fun c15 h => ?_) (fun c15 h => ?_)
    · refine j_lv [1, 2, 3, 4] rfl ?_
      exact J35 x1 x2 x3 mod_thrown mod_marks mod_whence mod_by mod_leads h
    · refine j_iload_n C 4 rfl rfl dX6_step_27 ?_
      refine j_if_lt C h 35 (by decide) dX6_step_28 (fun c14 h => ?_) (fun c14 h => ?_)
      · refine j_lv [1, 2, 3, 4] rfl ?_
        exact J35 x1 x2 x3 mod_thrown mod_marks mod_whence mod_by mod_leads h
      · refine j_iconst C dX6_step_31 ?_
        refine j_goto C 36 (by decide) dX6_step_32 ?_
        refine j_lv [1, 2, 3, 4] rfl ?_
        exact J36 x1 x2 x3 0 mod_thrown mod_marks mod_whence mod_by mod_leads h
  · refine j_iconst C dX6_step_13 ?_
    refine j_goto C 36 (by decide) dX6_step_14 ?_
    refine j_lv [1, 2, 3, 4] rfl ?_
    exact J36 x1 x2 x3 1 mod_thrown mod_marks mod_whence mod_by mod_leads h
theorem c_X6_step (l : Launch) (D : va_G) (b : Nat → Nat) (gm : Nat → ClassId) (mod_thrown : Int) (mod_places : Int) (mod_firings : Int) (mod_fired : Int) (mod_logged : Int) (mod_tokens : Nat → Int) (mod_weights : Nat → Int) (mod_logs : Nat → Int) (mod_marks : Nat → Int) (mod_whence : Nat → Int) (mod_by : Nat → Int) (mod_leads : Nat → Int) (mod_comes : Nat → Int) (mod_costs : Nat → Int) (mod_next : Nat → Int) (mod_found : Nat → Int) (x1 : Int) (x2 : Int) (x3 : Int) (res : Int × (Int) × (Nat → Int) × (Nat → Int) × (Nat → Int) × (Nat → Int)) (h : F_X6_step x1 x2 x3 mod_places mod_firings mod_tokens mod_weights mod_thrown mod_marks mod_whence mod_by mod_leads = some res) : Kt l yX6_step cX6_step 8 (some .int) ({ frames := 5, cells := 0, slots := 0, locals := 121 } : Room) D (mT gm) [.ref (b 0), .int (vI x1), .int (vI x2), .int (vI x3)] (mW b gm mod_thrown mod_places mod_firings mod_fired mod_logged mod_tokens mod_weights mod_logs mod_marks mod_whence mod_by mod_leads mod_comes mod_costs mod_next mod_found) (mW b gm res.2.1 mod_places mod_firings mod_fired mod_logged mod_tokens mod_weights mod_logs res.2.2.1 res.2.2.2.1 res.2.2.2.2.1 res.2.2.2.2.2 mod_comes mod_costs mod_next mod_found) (some (.int (vI res.1))) :=
  kt_i (ty := .int) rfl rfl (by decide +kernel) (Nat.le_of_ble_eq_true rfl) (fun C RET => k_X6_step C x1 x2 x3 res h RET)
set_option maxRecDepth 100000 in
set_option maxHeartbeats 4000000 in
theorem k_X6_digit {ws : va_W} {tys : List (ClassId × FieldType)} (C : JC p s m args meth c cX6_digit 6 "MarkingHallModel" D tys A) (x0 : Int) (x1 : Int) (x2 : Int) (x3 : Int) (res : Int) (h : F_X6_digit x0 x1 x2 x3 = some res) (RET : ∀ (pc : Nat) (lv : List (Nat × Value)), decode cX6_digit pc = .ok (.ireturn, 1) → J p l e ({ frames := 0, cells := 0, slots := 0, locals := 0 } : Room) s m args below meth c D A 6 Q 0 0 ws pc lv [.int (vI res)]) : J p l e ({ frames := 0, cells := 0, slots := 0, locals := 0 } : Room) s m args below meth c D A 6 Q 0 0 ws 0 [(0, .int (vI x0)), (1, .int (vI x1)), (2, .int (vI x2)), (3, .int (vI x3))] [] := by
  have J6 : ∀ (n : Nat) (l1 : Int) (l2 : Int) (l4 : Int) (l5 : Int), F_X6_digit_b6 n l1 l2 l4 l5 = some res → J p l e ({ frames := 0, cells := 0, slots := 0, locals := 0 } : Room) s m args below meth c D A 6 Q 0 0 ws 6 [(1, .int (vI l1)), (2, .int (vI l2)), (4, .int (vI l4)), (5, .int (vI l5))] [] := by
    intro n
    induction n with
    | zero => intro l1 l2 l4 l5 h; exact no_h h
    | succ n ih6 =>
      intro l1 l2 l4 l5 h
      replace h : F_X6_digit_b6_body (F_X6_digit_b6 n) l1 l2 l4 l5 = some res := h
      generalize F_X6_digit_b6 n = ag6 at ih6 h
      unfold F_X6_digit_b6_body at h
      refine j_iload C 3 rfl dX6_digit_6 ?_
      refine j_iload_n C 1 rfl rfl dX6_digit_8 ?_
      refine j_iconst C dX6_digit_9 ?_
      refine j_isub C dX6_digit_10 ?_
      refine j_nm h (fun v1 h => ?_)
      refine j_icmp_ge C h 26 (by decide) dX6_digit_11 (fun c4 h => ?_) (fun c4 h => ?_)
      · refine j_iload C 2 rfl dX6_digit_26 ?_
        refine j_iload_n C 0 rfl rfl dX6_digit_28 ?_
        refine j_irem C h dX6_digit_29 (fun h => ?_)
        cases h
        exact RET _ _ dX6_digit_30
      · refine j_iload C 2 rfl dX6_digit_14 ?_
        refine j_iload_n C 0 rfl rfl dX6_digit_16 ?_
        refine j_idiv C h dX6_digit_17 (fun h => ?_)
        refine j_nm h (fun v2 h => ?_)
        refine j_istore C [(4, .int (vI v2)), (1, .int (vI l1)), (2, .int (vI l2)), (5, .int (vI l5))] rfl (by decide) dX6_digit_18 ?_
        refine j_iinc C 3 rfl (fun v => [(5, .int (vI v)), (4, .int (vI v2)), (1, .int (vI l1)), (2, .int (vI l2))]) (fun _ => rfl) (by decide) h dX6_digit_20 (fun v3 h => ?_)
        refine j_goto C 6 (by decide) dX6_digit_23 ?_
        refine j_lv [2, 3, 1, 0] rfl ?_
        exact ih6 l1 l2 v2 v3 h
  unfold F_X6_digit at h
  refine j_iload_n C 0 rfl rfl dX6_digit_0 ?_
  refine j_istore C [(4, .int (vI x0)), (0, .int (vI x0)), (1, .int (vI x1)), (2, .int (vI x2)), (3, .int (vI x3))] rfl (by decide) dX6_digit_1 ?_
  refine j_iload_n C 4 rfl rfl dX6_digit_3 ?_
  refine j_istore C [(5, .int (vI x3)), (4, .int (vI x0)), (0, .int (vI x0)), (1, .int (vI x1)), (2, .int (vI x2)), (3, .int (vI x3))] rfl (by decide) dX6_digit_4 ?_
  refine j_lv [3, 4, 1, 0] rfl ?_
  exact J6 NN x1 x2 x0 x3 h
theorem c_X6_digit (l : Launch) (D : va_G) (tys : List (ClassId × FieldType)) (ws : va_W) (x0 : Int) (x1 : Int) (x2 : Int) (x3 : Int) (res : Int) (h : F_X6_digit x0 x1 x2 x3 = some res) : Kt l yX6_digit cX6_digit 6 (some .int) ({ frames := 0, cells := 0, slots := 0, locals := 0 } : Room) D tys [.int (vI x0), .int (vI x1), .int (vI x2), .int (vI x3)] ws ws (some (.int (vI res))) :=
  kt_i (ty := .int) rfl rfl (by decide +kernel) (Nat.le_of_ble_eq_true rfl) (fun C RET => k_X6_digit C x0 x1 x2 x3 res h RET)
set_option maxRecDepth 100000 in
set_option maxHeartbeats 4000000 in
theorem k_X6_change {b : Nat → Nat} {gm : Nat → ClassId} {mod_thrown : Int} {mod_places : Int} {mod_firings : Int} {mod_fired : Int} {mod_logged : Int} {mod_tokens : Nat → Int} {mod_weights : Nat → Int} {mod_logs : Nat → Int} {mod_marks : Nat → Int} {mod_whence : Nat → Int} {mod_by : Nat → Int} {mod_leads : Nat → Int} {mod_comes : Nat → Int} {mod_costs : Nat → Int} {mod_next : Nat → Int} {mod_found : Nat → Int} (C : JC p s m args meth c cX6_change 3 "MarkingHallModel" D (mT gm) A) (x1 : Int) (x2 : Int) (res : Int) (h : F_X6_change x1 x2 mod_weights = some res) (RET : ∀ (pc : Nat) (lv : List (Nat × Value)), decode cX6_change pc = .ok (.ireturn, 1) → J p l e ({ frames := 1, cells := 0, slots := 0, locals := 23 } : Room) s m args below meth c D A 3 Q 0 0 (mW b gm mod_thrown mod_places mod_firings mod_fired mod_logged mod_tokens mod_weights mod_logs mod_marks mod_whence mod_by mod_leads mod_comes mod_costs mod_next mod_found) pc lv [.int (vI res)]) : J p l e ({ frames := 1, cells := 0, slots := 0, locals := 23 } : Room) s m args below meth c D A 3 Q 0 0 (mW b gm mod_thrown mod_places mod_firings mod_fired mod_logged mod_tokens mod_weights mod_logs mod_marks mod_whence mod_by mod_leads mod_comes mod_costs mod_next mod_found) 0 [(0, .ref (b 0)), (1, .int (vI x1)), (2, .int (vI x2))] [] := by
  unfold F_X6_change at h
  refine j_aload_n C 0 rfl rfl dX6_change_0 ?_
  refine j_iconst C dX6_change_1 ?_
  refine j_iload_n C 1 rfl rfl dX6_change_2 ?_
  refine j_iload_n C 2 rfl rfl dX6_change_3 ?_
  obtain ⟨r1, hr1, h⟩ := Ob_of h
  refine q_X6_68 C (wc := (mW b gm mod_thrown mod_places mod_firings mod_fired mod_logged mod_tokens mod_weights mod_logs mod_marks mod_whence mod_by mod_leads mod_comes mod_costs mod_next mod_found)) (wc' := (mW b gm mod_thrown mod_places mod_firings mod_fired mod_logged mod_tokens mod_weights mod_logs mod_marks mod_whence mod_by mod_leads mod_comes mod_costs mod_next mod_found)) (c_X6_weight l D b gm mod_thrown mod_places mod_firings mod_fired mod_logged mod_tokens mod_weights mod_logs mod_marks mod_whence mod_by mod_leads mod_comes mod_costs mod_next mod_found 1 x1 x2 r1 hr1) ⟨(Nat.le_of_ble_eq_true rfl), (Nat.le_of_ble_eq_true rfl)⟩ rfl rfl 0 rfl rfl (ww _) (ww _) rfl C.2.2.2.2.2.2.1 (Nat.le_of_ble_eq_true rfl) rfl rfl (Nat.zero_le _) (Nat.zero_le _) dX6_change_4 ?_
  refine j_aload_n C 0 rfl rfl dX6_change_7 ?_
  refine j_iconst C dX6_change_8 ?_
  refine j_iload_n C 1 rfl rfl dX6_change_9 ?_
  refine j_iload_n C 2 rfl rfl dX6_change_10 ?_
  obtain ⟨r2, hr2, h⟩ := Ob_of h
  refine q_X6_68 C (wc := (mW b gm mod_thrown mod_places mod_firings mod_fired mod_logged mod_tokens mod_weights mod_logs mod_marks mod_whence mod_by mod_leads mod_comes mod_costs mod_next mod_found)) (wc' := (mW b gm mod_thrown mod_places mod_firings mod_fired mod_logged mod_tokens mod_weights mod_logs mod_marks mod_whence mod_by mod_leads mod_comes mod_costs mod_next mod_found)) (c_X6_weight l D b gm mod_thrown mod_places mod_firings mod_fired mod_logged mod_tokens mod_weights mod_logs mod_marks mod_whence mod_by mod_leads mod_comes mod_costs mod_next mod_found 0 x1 x2 r2 hr2) ⟨(Nat.le_of_ble_eq_true rfl), (Nat.le_of_ble_eq_true rfl)⟩ rfl rfl 0 rfl rfl (ww _) (ww _) rfl C.2.2.2.2.2.2.1 (Nat.le_of_ble_eq_true rfl) rfl rfl (Nat.zero_le _) (Nat.zero_le _) dX6_change_11 ?_
  refine j_isub C dX6_change_14 ?_
  cases h
  exact RET _ _ dX6_change_15
theorem c_X6_change (l : Launch) (D : va_G) (b : Nat → Nat) (gm : Nat → ClassId) (mod_thrown : Int) (mod_places : Int) (mod_firings : Int) (mod_fired : Int) (mod_logged : Int) (mod_tokens : Nat → Int) (mod_weights : Nat → Int) (mod_logs : Nat → Int) (mod_marks : Nat → Int) (mod_whence : Nat → Int) (mod_by : Nat → Int) (mod_leads : Nat → Int) (mod_comes : Nat → Int) (mod_costs : Nat → Int) (mod_next : Nat → Int) (mod_found : Nat → Int) (x1 : Int) (x2 : Int) (res : Int) (h : F_X6_change x1 x2 mod_weights = some res) : Kt l yX6_change cX6_change 3 (some .int) ({ frames := 1, cells := 0, slots := 0, locals := 23 } : Room) D (mT gm) [.ref (b 0), .int (vI x1), .int (vI x2)] (mW b gm mod_thrown mod_places mod_firings mod_fired mod_logged mod_tokens mod_weights mod_logs mod_marks mod_whence mod_by mod_leads mod_comes mod_costs mod_next mod_found) (mW b gm mod_thrown mod_places mod_firings mod_fired mod_logged mod_tokens mod_weights mod_logs mod_marks mod_whence mod_by mod_leads mod_comes mod_costs mod_next mod_found) (some (.int (vI res))) :=
  kt_i (ty := .int) rfl rfl (by decide +kernel) (Nat.le_of_ble_eq_true rfl) (fun C RET => k_X6_change C x1 x2 res h RET)
set_option maxRecDepth 100000 in
set_option maxHeartbeats 4000000 in
theorem k_X6_isRow {b : Nat → Nat} {gm : Nat → ClassId} {mod_thrown : Int} {mod_places : Int} {mod_firings : Int} {mod_fired : Int} {mod_logged : Int} {mod_tokens : Nat → Int} {mod_weights : Nat → Int} {mod_logs : Nat → Int} {mod_marks : Nat → Int} {mod_whence : Nat → Int} {mod_by : Nat → Int} {mod_leads : Nat → Int} {mod_comes : Nat → Int} {mod_costs : Nat → Int} {mod_next : Nat → Int} {mod_found : Nat → Int} (C : JC p s m args meth c cX6_isRow 7 "MarkingHallModel" D (mT gm) A) (x1 : Int) (res : Int) (h : F_X6_isRow x1 mod_places mod_firings mod_weights = some res) (RET : ∀ (pc : Nat) (lv : List (Nat × Value)), (res = 0 ∨ res = 1) → decode cX6_isRow pc = .ok (.ireturn, 1) → J p l e ({ frames := 2, cells := 0, slots := 0, locals := 45 } : Room) s m args below meth c D A 7 Q 0 0 (mW b gm mod_thrown mod_places mod_firings mod_fired mod_logged mod_tokens mod_weights mod_logs mod_marks mod_whence mod_by mod_leads mod_comes mod_costs mod_next mod_found) pc lv [.int (vI res)]) : J p l e ({ frames := 2, cells := 0, slots := 0, locals := 45 } : Room) s m args below meth c D A 7 Q 0 0 (mW b gm mod_thrown mod_places mod_firings mod_fired mod_logged mod_tokens mod_weights mod_logs mod_marks mod_whence mod_by mod_leads mod_comes mod_costs mod_next mod_found) 0 [(0, .ref (b 0)), (1, .int (vI x1))] [] := by
  have J4 : ∀ (n : Nat) (l1 : Int) (l2 : Int) (l3 : Int), F_X6_isRow_b4 mod_places mod_firings mod_weights n l1 l2 l3 = some res → J p l e ({ frames := 2, cells := 0, slots := 0, locals := 45 } : Room) s m args below meth c D A 7 Q 0 0 (mW b gm mod_thrown mod_places mod_firings mod_fired mod_logged mod_tokens mod_weights mod_logs mod_marks mod_whence mod_by mod_leads mod_comes mod_costs mod_next mod_found) 4 [(0, .ref (b 0)), (1, .int (vI l1)), (2, .int (vI l2)), (3, .int (vI l3))] [] := by
    intro n
    induction n with
    | zero => intro l1 l2 l3 h; exact no_h h
    | succ n ih4 =>
      intro l1 l2 l3 h
      replace h : F_X6_isRow_b4_body mod_places mod_firings mod_weights (F_X6_isRow_b4 mod_places mod_firings mod_weights n) l1 l2 l3 = some res := h
      generalize F_X6_isRow_b4 mod_places mod_firings mod_weights n = ag4 at ih4 h
      have J101 : ∀ (l1 : Int) (l3 : Int) (s0 : Int), F_X6_isRow_b101 mod_places mod_firings mod_weights ag4 l1 l3 s0 = some res → J p l e ({ frames := 2, cells := 0, slots := 0, locals := 45 } : Room) s m args below meth c D A 7 Q 0 0 (mW b gm mod_thrown mod_places mod_firings mod_fired mod_logged mod_tokens mod_weights mod_logs mod_marks mod_whence mod_by mod_leads mod_comes mod_costs mod_next mod_found) 101 [(0, .ref (b 0)), (1, .int (vI l1)), (3, .int (vI l3))] [.int (vI s0)] := by
        intro l1 l3 s0 h
        unfold F_X6_isRow_b101 at h
        refine j_istore_n C [(2, .int (vI s0)), (0, .ref (b 0)), (1, .int (vI l1)), (3, .int (vI l3))] rfl rfl (by decide) dX6_isRow_101 ?_
        refine j_iinc C 3 rfl (fun v => [(3, .int (vI v)), (2, .int (vI s0)), (0, .ref (b 0)), (1, .int (vI l1))]) (fun _ => rfl) (by decide) h dX6_isRow_102 (fun v1 h => ?_)
        refine j_goto C 4 (by decide) dX6_isRow_105 ?_
        refine j_lv [2, 3, 1, 0] rfl ?_
        exact ih4 l1 s0 v1 h
      have J100 : ∀ (l1 : Int) (l3 : Int), F_X6_isRow_b100 mod_places mod_firings mod_weights ag4 l1 l3 = some res → J p l e ({ frames := 2, cells := 0, slots := 0, locals := 45 } : Room) s m args below meth c D A 7 Q 0 0 (mW b gm mod_thrown mod_places mod_firings mod_fired mod_logged mod_tokens mod_weights mod_logs mod_marks mod_whence mod_by mod_leads mod_comes mod_costs mod_next mod_found) 100 [(0, .ref (b 0)), (1, .int (vI l1)), (3, .int (vI l3))] [] := by
        intro l1 l3 h
        unfold F_X6_isRow_b100 at h
        refine j_iconst C dX6_isRow_100 ?_
        exact J101 l1 l3 0 h
      have J18 : ∀ (n : Nat) (l1 : Int) (l2 : Int) (l3 : Int) (l4 : Int) (l5 : Int), F_X6_isRow_b18 mod_places mod_firings mod_weights ag4 n l1 l2 l3 l4 l5 = some res → J p l e ({ frames := 2, cells := 0, slots := 0, locals := 45 } : Room) s m args below meth c D A 7 Q 0 0 (mW b gm mod_thrown mod_places mod_firings mod_fired mod_logged mod_tokens mod_weights mod_logs mod_marks mod_whence mod_by mod_leads mod_comes mod_costs mod_next mod_found) 18 [(0, .ref (b 0)), (1, .int (vI l1)), (2, .int (vI l2)), (3, .int (vI l3)), (4, .int (vI l4)), (5, .int (vI l5))] [] := by
        intro n
        induction n with
        | zero => intro l1 l2 l3 l4 l5 h; exact no_h h
        | succ n ih18 =>
          intro l1 l2 l3 l4 l5 h
          replace h : F_X6_isRow_b18_body mod_places mod_firings mod_weights ag4 (F_X6_isRow_b18 mod_places mod_firings mod_weights ag4 n) l1 l2 l3 l4 l5 = some res := h
          generalize F_X6_isRow_b18 mod_places mod_firings mod_weights ag4 n = ag18 at ih18 h
          have J80 : ∀ (l1 : Int) (l3 : Int) (l4 : Int) (l5 : Int) (s0 : Int), F_X6_isRow_b80 mod_places mod_firings mod_weights ag4 ag18 l1 l3 l4 l5 s0 = some res → J p l e ({ frames := 2, cells := 0, slots := 0, locals := 45 } : Room) s m args below meth c D A 7 Q 0 0 (mW b gm mod_thrown mod_places mod_firings mod_fired mod_logged mod_tokens mod_weights mod_logs mod_marks mod_whence mod_by mod_leads mod_comes mod_costs mod_next mod_found) 80 [(0, .ref (b 0)), (1, .int (vI l1)), (3, .int (vI l3)), (4, .int (vI l4)), (5, .int (vI l5))] [.int (vI s0)] := by
            intro l1 l3 l4 l5 s0 h
            unfold F_X6_isRow_b80 at h
            refine j_istore_n C [(2, .int (vI s0)), (0, .ref (b 0)), (1, .int (vI l1)), (3, .int (vI l3)), (4, .int (vI l4)), (5, .int (vI l5))] rfl rfl (by decide) dX6_isRow_80 ?_
            refine j_iinc C 5 rfl (fun v => [(5, .int (vI v)), (2, .int (vI s0)), (0, .ref (b 0)), (1, .int (vI l1)), (3, .int (vI l3)), (4, .int (vI l4))]) (fun _ => rfl) (by decide) h dX6_isRow_81 (fun v2 h => ?_)
            refine j_goto C 18 (by decide) dX6_isRow_84 ?_
            refine j_lv [2, 3, 1, 4, 5, 0] rfl ?_
            exact ih18 l1 s0 l3 l4 v2 h
          have J79 : ∀ (l1 : Int) (l3 : Int) (l4 : Int) (l5 : Int), F_X6_isRow_b79 mod_places mod_firings mod_weights ag4 ag18 l1 l3 l4 l5 = some res → J p l e ({ frames := 2, cells := 0, slots := 0, locals := 45 } : Room) s m args below meth c D A 7 Q 0 0 (mW b gm mod_thrown mod_places mod_firings mod_fired mod_logged mod_tokens mod_weights mod_logs mod_marks mod_whence mod_by mod_leads mod_comes mod_costs mod_next mod_found) 79 [(0, .ref (b 0)), (1, .int (vI l1)), (3, .int (vI l3)), (4, .int (vI l4)), (5, .int (vI l5))] [] := by
            intro l1 l3 l4 l5 h
            unfold F_X6_isRow_b79 at h
            refine j_iconst C dX6_isRow_79 ?_
            exact J80 l1 l3 l4 l5 0 h
          have J75 : ∀ (l1 : Int) (l3 : Int) (l4 : Int) (l5 : Int), F_X6_isRow_b75 mod_places mod_firings mod_weights ag4 ag18 l1 l3 l4 l5 = some res → J p l e ({ frames := 2, cells := 0, slots := 0, locals := 45 } : Room) s m args below meth c D A 7 Q 0 0 (mW b gm mod_thrown mod_places mod_firings mod_fired mod_logged mod_tokens mod_weights mod_logs mod_marks mod_whence mod_by mod_leads mod_comes mod_costs mod_next mod_found) 75 [(0, .ref (b 0)), (1, .int (vI l1)), (3, .int (vI l3)), (4, .int (vI l4)), (5, .int (vI l5))] [] := by
            intro l1 l3 l4 l5 h
            unfold F_X6_isRow_b75 at h
            refine j_iconst C dX6_isRow_75 ?_
            refine j_goto C 80 (by decide) dX6_isRow_76 ?_
            exact J80 l1 l3 l4 l5 1 h
          unfold F_X6_isRow_b18_body at h
          refine j_iload C 5 rfl dX6_isRow_18 ?_
          refine j_aload_n C 0 rfl rfl dX6_isRow_20 ?_
          refine g_X6_48 C (v := .int (vI mod_places)) 0 rfl rfl dX6_isRow_21 ?_
          refine j_icmp_ge C h 87 (by decide) dX6_isRow_24 (fun c12 h => ?_) (fun c12 h => ?_)
          · refine j_iload_n C 2 rfl rfl dX6_isRow_87 ?_
            refine j_if_eq C h 100 (by decide) dX6_isRow_88 (fun c4 h => ?_) (fun c4 h => ?_)
            · refine j_lv [0, 1, 3] rfl ?_
              exact J100 l1 l3 h
            · refine j_iload C 4 rfl dX6_isRow_91 ?_
              refine j_if_ne C h 100 (by decide) dX6_isRow_93 (fun c3 h => ?_) (fun c3 h => ?_)
              · refine j_lv [0, 1, 3] rfl ?_
                exact J100 l1 l3 h
              · refine j_iconst C dX6_isRow_96 ?_
                refine j_goto C 101 (by decide) dX6_isRow_97 ?_
                refine j_lv [0, 1, 3] rfl ?_
                exact J101 l1 l3 1 h
          · refine j_iload_n C 1 rfl rfl dX6_isRow_27 ?_
            refine j_iconst C dX6_isRow_28 ?_
            refine j_aload_n C 0 rfl rfl dX6_isRow_29 ?_
            refine g_X6_48 C (v := .int (vI mod_places)) 0 rfl rfl dX6_isRow_30 ?_
            refine j_iload C 5 rfl dX6_isRow_33 ?_
            obtain ⟨r5, hr5, h⟩ := Ob_of h
            refine q_X6_116 C (wc := (mW b gm mod_thrown mod_places mod_firings mod_fired mod_logged mod_tokens mod_weights mod_logs mod_marks mod_whence mod_by mod_leads mod_comes mod_costs mod_next mod_found)) (wc' := (mW b gm mod_thrown mod_places mod_firings mod_fired mod_logged mod_tokens mod_weights mod_logs mod_marks mod_whence mod_by mod_leads mod_comes mod_costs mod_next mod_found)) (c_X6_digit l D _ _ l1 4 mod_places l5 r5 hr5) ⟨(Nat.le_of_ble_eq_true rfl), (Nat.le_of_ble_eq_true rfl)⟩ rfl rfl rfl (ww _) (ww _) rfl C.2.2.2.2.2.2.1 (Nat.le_of_ble_eq_true rfl) rfl rfl (Nat.zero_le _) (Nat.zero_le _) dX6_isRow_35 ?_
            refine j_istore C [(6, .int (vI r5)), (0, .ref (b 0)), (1, .int (vI l1)), (2, .int (vI l2)), (3, .int (vI l3)), (4, .int (vI l4)), (5, .int (vI l5))] rfl (by decide) dX6_isRow_38 ?_
            refine j_iload C 5 rfl dX6_isRow_40 ?_
            refine j_iload C 0 rfl dX6_isRow_42 ?_
            refine j_aload_n C 1 rfl rfl dX6_isRow_44 ?_
            refine j_iload_n C 4 rfl rfl dX6_isRow_45 ?_
            refine j_iload C 6 rfl dX6_isRow_46 ?_
            obtain ⟨r6, hr6, h⟩ := Ob_of h
            refine q_X6_120 C (wc := (mW b gm mod_thrown mod_places mod_firings mod_fired mod_logged mod_tokens mod_weights mod_logs mod_marks mod_whence mod_by mod_leads mod_comes mod_costs mod_next mod_found)) (wc' := (mW b gm mod_thrown mod_places mod_firings mod_fired mod_logged mod_tokens mod_weights mod_logs mod_marks mod_whence mod_by mod_leads mod_comes mod_costs mod_next mod_found)) (c_X6_change l D b gm mod_thrown mod_places mod_firings mod_fired mod_logged mod_tokens mod_weights mod_logs mod_marks mod_whence mod_by mod_leads mod_comes mod_costs mod_next mod_found l3 l5 r6 hr6) ⟨(Nat.le_of_ble_eq_true rfl), (Nat.le_of_ble_eq_true rfl)⟩ rfl rfl 0 rfl rfl (ww _) (ww _) rfl C.2.2.2.2.2.2.1 (Nat.le_of_ble_eq_true rfl) rfl rfl (Nat.zero_le _) (Nat.zero_le _) dX6_isRow_48 ?_
            refine j_imul C dX6_isRow_51 ?_
            refine j_iadd C dX6_isRow_52 ?_
            refine j_nm h (fun v7 h => ?_)
            refine j_istore C [(4, .int (vI v7)), (6, .int (vI r5)), (0, .ref (b 0)), (1, .int (vI l1)), (2, .int (vI l2)), (3, .int (vI l3)), (5, .int (vI l5))] rfl (by decide) dX6_isRow_53 ?_
            refine j_iload_n C 4 rfl rfl dX6_isRow_55 ?_
            refine j_if_eq C h 79 (by decide) dX6_isRow_56 (fun c11 h => ?_) (fun c11 h => ?_)
            · refine j_lv [2, 3, 5, 0, 6] rfl ?_
              exact J79 l1 l3 v7 l5 h
            · refine j_iload C 1 rfl dX6_isRow_59 ?_
              refine j_if_eq C h 75 (by decide) dX6_isRow_61 (fun c10 h => ?_) (fun c10 h => ?_)
              · refine j_lv [2, 3, 5, 0, 6] rfl ?_
                exact J75 l1 l3 v7 l5 h
              · refine j_aload_n C 2 rfl rfl dX6_isRow_64 ?_
                refine j_iconst C dX6_isRow_65 ?_
                refine j_iload_n C 5 rfl rfl dX6_isRow_66 ?_
                refine j_iload C 6 rfl dX6_isRow_67 ?_
                obtain ⟨r8, hr8, h⟩ := Ob_of h
                refine q_X6_68 C (wc := (mW b gm mod_thrown mod_places mod_firings mod_fired mod_logged mod_tokens mod_weights mod_logs mod_marks mod_whence mod_by mod_leads mod_comes mod_costs mod_next mod_found)) (wc' := (mW b gm mod_thrown mod_places mod_firings mod_fired mod_logged mod_tokens mod_weights mod_logs mod_marks mod_whence mod_by mod_leads mod_comes mod_costs mod_next mod_found)) (c_X6_weight l D b gm mod_thrown mod_places mod_firings mod_fired mod_logged mod_tokens mod_weights mod_logs mod_marks mod_whence mod_by mod_leads mod_comes mod_costs mod_next mod_found 4 l3 l5 r8 hr8) ⟨(Nat.le_of_ble_eq_true rfl), (Nat.le_of_ble_eq_true rfl)⟩ rfl rfl 0 rfl rfl (ww _) (ww _) rfl C.2.2.2.2.2.2.1 (Nat.le_of_ble_eq_true rfl) rfl rfl (Nat.zero_le _) (Nat.zero_le _) dX6_isRow_69 ?_
                refine j_if_ne C h 79 (by decide) dX6_isRow_72 (fun c9 h => ?_) (fun c9 h => ?_)
                · refine j_lv [2, 3, 5, 0, 6] rfl ?_
                  exact J79 l1 l3 v7 l5 h
                · refine j_lv [2, 3, 5, 0, 6] rfl ?_
                  exact J75 l1 l3 v7 l5 h
      unfold F_X6_isRow_b4_body at h
      refine j_iload_n C 3 rfl rfl dX6_isRow_4 ?_
      refine j_aload_n C 0 rfl rfl dX6_isRow_5 ?_
      refine g_X6_55 C (v := .int (vI mod_firings)) 0 rfl rfl dX6_isRow_6 ?_
      refine j_icmp_ge C h 108 (by decide) dX6_isRow_9 (fun c14 h => ?_) (fun c14 h => ?_)
      · refine j_iload_n C 2 rfl rfl dX6_isRow_108 ?_
        obtain ⟨hz13, h⟩ := G_of h
        cases h
        exact RET _ _ hz13 dX6_isRow_109
      · refine j_iconst C dX6_isRow_12 ?_
        refine j_istore C [(4, .int (vI 0)), (0, .ref (b 0)), (1, .int (vI l1)), (2, .int (vI l2)), (3, .int (vI l3))] rfl (by decide) dX6_isRow_13 ?_
        refine j_iconst C dX6_isRow_15 ?_
        refine j_istore C [(5, .int (vI 0)), (4, .int (vI 0)), (0, .ref (b 0)), (1, .int (vI l1)), (2, .int (vI l2)), (3, .int (vI l3))] rfl (by decide) dX6_isRow_16 ?_
        refine j_lv [2, 3, 4, 5, 1, 0] rfl ?_
        exact J18 NN l1 l2 l3 0 0 h
  unfold F_X6_isRow at h
  refine j_iconst C dX6_isRow_0 ?_
  refine j_istore_n C [(2, .int (vI 1)), (0, .ref (b 0)), (1, .int (vI x1))] rfl rfl (by decide) dX6_isRow_1 ?_
  refine j_iconst C dX6_isRow_2 ?_
  refine j_istore_n C [(3, .int (vI 0)), (2, .int (vI 1)), (0, .ref (b 0)), (1, .int (vI x1))] rfl rfl (by decide) dX6_isRow_3 ?_
  refine j_lv [2, 3, 1, 0] rfl ?_
  exact J4 NN x1 1 0 h
theorem c_X6_isRow (l : Launch) (D : va_G) (b : Nat → Nat) (gm : Nat → ClassId) (mod_thrown : Int) (mod_places : Int) (mod_firings : Int) (mod_fired : Int) (mod_logged : Int) (mod_tokens : Nat → Int) (mod_weights : Nat → Int) (mod_logs : Nat → Int) (mod_marks : Nat → Int) (mod_whence : Nat → Int) (mod_by : Nat → Int) (mod_leads : Nat → Int) (mod_comes : Nat → Int) (mod_costs : Nat → Int) (mod_next : Nat → Int) (mod_found : Nat → Int) (x1 : Int) (res : Int) (h : F_X6_isRow x1 mod_places mod_firings mod_weights = some res) : Kt l yX6_isRow cX6_isRow 7 (some .boolean) ({ frames := 2, cells := 0, slots := 0, locals := 45 } : Room) D (mT gm) [.ref (b 0), .int (vI x1)] (mW b gm mod_thrown mod_places mod_firings mod_fired mod_logged mod_tokens mod_weights mod_logs mod_marks mod_whence mod_by mod_leads mod_comes mod_costs mod_next mod_found) (mW b gm mod_thrown mod_places mod_firings mod_fired mod_logged mod_tokens mod_weights mod_logs mod_marks mod_whence mod_by mod_leads mod_comes mod_costs mod_next mod_found) (some (.int (vI res))) :=
  kt_z rfl (by decide +kernel) (Nat.le_of_ble_eq_true rfl) (fun C RET => k_X6_isRow C x1 res h RET)
set_option maxRecDepth 100000 in
set_option maxHeartbeats 4000000 in
theorem k_X6_isRound {b : Nat → Nat} {gm : Nat → ClassId} {mod_thrown : Int} {mod_places : Int} {mod_firings : Int} {mod_fired : Int} {mod_logged : Int} {mod_tokens : Nat → Int} {mod_weights : Nat → Int} {mod_logs : Nat → Int} {mod_marks : Nat → Int} {mod_whence : Nat → Int} {mod_by : Nat → Int} {mod_leads : Nat → Int} {mod_comes : Nat → Int} {mod_costs : Nat → Int} {mod_next : Nat → Int} {mod_found : Nat → Int} (C : JC p s m args meth c cX6_isRound 7 "MarkingHallModel" D (mT gm) A) (x1 : Int) (res : Int) (h : F_X6_isRound x1 mod_places mod_firings mod_weights = some res) (RET : ∀ (pc : Nat) (lv : List (Nat × Value)), (res = 0 ∨ res = 1) → decode cX6_isRound pc = .ok (.ireturn, 1) → J p l e ({ frames := 2, cells := 0, slots := 0, locals := 45 } : Room) s m args below meth c D A 7 Q 0 0 (mW b gm mod_thrown mod_places mod_firings mod_fired mod_logged mod_tokens mod_weights mod_logs mod_marks mod_whence mod_by mod_leads mod_comes mod_costs mod_next mod_found) pc lv [.int (vI res)]) : J p l e ({ frames := 2, cells := 0, slots := 0, locals := 45 } : Room) s m args below meth c D A 7 Q 0 0 (mW b gm mod_thrown mod_places mod_firings mod_fired mod_logged mod_tokens mod_weights mod_logs mod_marks mod_whence mod_by mod_leads mod_comes mod_costs mod_next mod_found) 0 [(0, .ref (b 0)), (1, .int (vI x1))] [] := by
  have J4 : ∀ (n : Nat) (l1 : Int) (l2 : Int) (l3 : Int), F_X6_isRound_b4 mod_places mod_firings mod_weights n l1 l2 l3 = some res → J p l e ({ frames := 2, cells := 0, slots := 0, locals := 45 } : Room) s m args below meth c D A 7 Q 0 0 (mW b gm mod_thrown mod_places mod_firings mod_fired mod_logged mod_tokens mod_weights mod_logs mod_marks mod_whence mod_by mod_leads mod_comes mod_costs mod_next mod_found) 4 [(0, .ref (b 0)), (1, .int (vI l1)), (2, .int (vI l2)), (3, .int (vI l3))] [] := by
    intro n
    induction n with
    | zero => intro l1 l2 l3 h; exact no_h h
    | succ n ih4 =>
      intro l1 l2 l3 h
      replace h : F_X6_isRound_b4_body mod_places mod_firings mod_weights (F_X6_isRound_b4 mod_places mod_firings mod_weights n) l1 l2 l3 = some res := h
      generalize F_X6_isRound_b4 mod_places mod_firings mod_weights n = ag4 at ih4 h
      have J101 : ∀ (l1 : Int) (l3 : Int) (s0 : Int), F_X6_isRound_b101 mod_places mod_firings mod_weights ag4 l1 l3 s0 = some res → J p l e ({ frames := 2, cells := 0, slots := 0, locals := 45 } : Room) s m args below meth c D A 7 Q 0 0 (mW b gm mod_thrown mod_places mod_firings mod_fired mod_logged mod_tokens mod_weights mod_logs mod_marks mod_whence mod_by mod_leads mod_comes mod_costs mod_next mod_found) 101 [(0, .ref (b 0)), (1, .int (vI l1)), (3, .int (vI l3))] [.int (vI s0)] := by
        intro l1 l3 s0 h
        unfold F_X6_isRound_b101 at h
        refine j_istore_n C [(2, .int (vI s0)), (0, .ref (b 0)), (1, .int (vI l1)), (3, .int (vI l3))] rfl rfl (by decide) dX6_isRound_101 ?_
        refine j_iinc C 3 rfl (fun v => [(3, .int (vI v)), (2, .int (vI s0)), (0, .ref (b 0)), (1, .int (vI l1))]) (fun _ => rfl) (by decide) h dX6_isRound_102 (fun v1 h => ?_)
        refine j_goto C 4 (by decide) dX6_isRound_105 ?_
        refine j_lv [2, 3, 1, 0] rfl ?_
        exact ih4 l1 s0 v1 h
      have J100 : ∀ (l1 : Int) (l3 : Int), F_X6_isRound_b100 mod_places mod_firings mod_weights ag4 l1 l3 = some res → J p l e ({ frames := 2, cells := 0, slots := 0, locals := 45 } : Room) s m args below meth c D A 7 Q 0 0 (mW b gm mod_thrown mod_places mod_firings mod_fired mod_logged mod_tokens mod_weights mod_logs mod_marks mod_whence mod_by mod_leads mod_comes mod_costs mod_next mod_found) 100 [(0, .ref (b 0)), (1, .int (vI l1)), (3, .int (vI l3))] [] := by
        intro l1 l3 h
        unfold F_X6_isRound_b100 at h
        refine j_iconst C dX6_isRound_100 ?_
        exact J101 l1 l3 0 h
      have J18 : ∀ (n : Nat) (l1 : Int) (l2 : Int) (l3 : Int) (l4 : Int) (l5 : Int), F_X6_isRound_b18 mod_places mod_firings mod_weights ag4 n l1 l2 l3 l4 l5 = some res → J p l e ({ frames := 2, cells := 0, slots := 0, locals := 45 } : Room) s m args below meth c D A 7 Q 0 0 (mW b gm mod_thrown mod_places mod_firings mod_fired mod_logged mod_tokens mod_weights mod_logs mod_marks mod_whence mod_by mod_leads mod_comes mod_costs mod_next mod_found) 18 [(0, .ref (b 0)), (1, .int (vI l1)), (2, .int (vI l2)), (3, .int (vI l3)), (4, .int (vI l4)), (5, .int (vI l5))] [] := by
        intro n
        induction n with
        | zero => intro l1 l2 l3 l4 l5 h; exact no_h h
        | succ n ih18 =>
          intro l1 l2 l3 l4 l5 h
          replace h : F_X6_isRound_b18_body mod_places mod_firings mod_weights ag4 (F_X6_isRound_b18 mod_places mod_firings mod_weights ag4 n) l1 l2 l3 l4 l5 = some res := h
          generalize F_X6_isRound_b18 mod_places mod_firings mod_weights ag4 n = ag18 at ih18 h
          have J80 : ∀ (l1 : Int) (l3 : Int) (l4 : Int) (l5 : Int) (s0 : Int), F_X6_isRound_b80 mod_places mod_firings mod_weights ag4 ag18 l1 l3 l4 l5 s0 = some res → J p l e ({ frames := 2, cells := 0, slots := 0, locals := 45 } : Room) s m args below meth c D A 7 Q 0 0 (mW b gm mod_thrown mod_places mod_firings mod_fired mod_logged mod_tokens mod_weights mod_logs mod_marks mod_whence mod_by mod_leads mod_comes mod_costs mod_next mod_found) 80 [(0, .ref (b 0)), (1, .int (vI l1)), (3, .int (vI l3)), (4, .int (vI l4)), (5, .int (vI l5))] [.int (vI s0)] := by
            intro l1 l3 l4 l5 s0 h
            unfold F_X6_isRound_b80 at h
            refine j_istore_n C [(2, .int (vI s0)), (0, .ref (b 0)), (1, .int (vI l1)), (3, .int (vI l3)), (4, .int (vI l4)), (5, .int (vI l5))] rfl rfl (by decide) dX6_isRound_80 ?_
            refine j_iinc C 5 rfl (fun v => [(5, .int (vI v)), (2, .int (vI s0)), (0, .ref (b 0)), (1, .int (vI l1)), (3, .int (vI l3)), (4, .int (vI l4))]) (fun _ => rfl) (by decide) h dX6_isRound_81 (fun v2 h => ?_)
            refine j_goto C 18 (by decide) dX6_isRound_84 ?_
            refine j_lv [2, 3, 1, 4, 5, 0] rfl ?_
            exact ih18 l1 s0 l3 l4 v2 h
          have J79 : ∀ (l1 : Int) (l3 : Int) (l4 : Int) (l5 : Int), F_X6_isRound_b79 mod_places mod_firings mod_weights ag4 ag18 l1 l3 l4 l5 = some res → J p l e ({ frames := 2, cells := 0, slots := 0, locals := 45 } : Room) s m args below meth c D A 7 Q 0 0 (mW b gm mod_thrown mod_places mod_firings mod_fired mod_logged mod_tokens mod_weights mod_logs mod_marks mod_whence mod_by mod_leads mod_comes mod_costs mod_next mod_found) 79 [(0, .ref (b 0)), (1, .int (vI l1)), (3, .int (vI l3)), (4, .int (vI l4)), (5, .int (vI l5))] [] := by
            intro l1 l3 l4 l5 h
            unfold F_X6_isRound_b79 at h
            refine j_iconst C dX6_isRound_79 ?_
            exact J80 l1 l3 l4 l5 0 h
          have J75 : ∀ (l1 : Int) (l3 : Int) (l4 : Int) (l5 : Int), F_X6_isRound_b75 mod_places mod_firings mod_weights ag4 ag18 l1 l3 l4 l5 = some res → J p l e ({ frames := 2, cells := 0, slots := 0, locals := 45 } : Room) s m args below meth c D A 7 Q 0 0 (mW b gm mod_thrown mod_places mod_firings mod_fired mod_logged mod_tokens mod_weights mod_logs mod_marks mod_whence mod_by mod_leads mod_comes mod_costs mod_next mod_found) 75 [(0, .ref (b 0)), (1, .int (vI l1)), (3, .int (vI l3)), (4, .int (vI l4)), (5, .int (vI l5))] [] := by
            intro l1 l3 l4 l5 h
            unfold F_X6_isRound_b75 at h
            refine j_iconst C dX6_isRound_75 ?_
            refine j_goto C 80 (by decide) dX6_isRound_76 ?_
            exact J80 l1 l3 l4 l5 1 h
          unfold F_X6_isRound_b18_body at h
          refine j_iload C 5 rfl dX6_isRound_18 ?_
          refine j_aload_n C 0 rfl rfl dX6_isRound_20 ?_
          refine g_X6_55 C (v := .int (vI mod_firings)) 0 rfl rfl dX6_isRound_21 ?_
          refine j_icmp_ge C h 87 (by decide) dX6_isRound_24 (fun c12 h => ?_) (fun c12 h => ?_)
          · refine j_iload_n C 2 rfl rfl dX6_isRound_87 ?_
            refine j_if_eq C h 100 (by decide) dX6_isRound_88 (fun c4 h => ?_) (fun c4 h => ?_)
            · refine j_lv [0, 1, 3] rfl ?_
              exact J100 l1 l3 h
            · refine j_iload C 4 rfl dX6_isRound_91 ?_
              refine j_if_ne C h 100 (by decide) dX6_isRound_93 (fun c3 h => ?_) (fun c3 h => ?_)
              · refine j_lv [0, 1, 3] rfl ?_
                exact J100 l1 l3 h
              · refine j_iconst C dX6_isRound_96 ?_
                refine j_goto C 101 (by decide) dX6_isRound_97 ?_
                refine j_lv [0, 1, 3] rfl ?_
                exact J101 l1 l3 1 h
          · refine j_iload_n C 1 rfl rfl dX6_isRound_27 ?_
            refine j_iconst C dX6_isRound_28 ?_
            refine j_aload_n C 0 rfl rfl dX6_isRound_29 ?_
            refine g_X6_55 C (v := .int (vI mod_firings)) 0 rfl rfl dX6_isRound_30 ?_
            refine j_iload C 5 rfl dX6_isRound_33 ?_
            obtain ⟨r5, hr5, h⟩ := Ob_of h
            refine q_X6_116 C (wc := (mW b gm mod_thrown mod_places mod_firings mod_fired mod_logged mod_tokens mod_weights mod_logs mod_marks mod_whence mod_by mod_leads mod_comes mod_costs mod_next mod_found)) (wc' := (mW b gm mod_thrown mod_places mod_firings mod_fired mod_logged mod_tokens mod_weights mod_logs mod_marks mod_whence mod_by mod_leads mod_comes mod_costs mod_next mod_found)) (c_X6_digit l D _ _ l1 3 mod_firings l5 r5 hr5) ⟨(Nat.le_of_ble_eq_true rfl), (Nat.le_of_ble_eq_true rfl)⟩ rfl rfl rfl (ww _) (ww _) rfl C.2.2.2.2.2.2.1 (Nat.le_of_ble_eq_true rfl) rfl rfl (Nat.zero_le _) (Nat.zero_le _) dX6_isRound_35 ?_
            refine j_istore C [(6, .int (vI r5)), (0, .ref (b 0)), (1, .int (vI l1)), (2, .int (vI l2)), (3, .int (vI l3)), (4, .int (vI l4)), (5, .int (vI l5))] rfl (by decide) dX6_isRound_38 ?_
            refine j_iload C 5 rfl dX6_isRound_40 ?_
            refine j_iload C 0 rfl dX6_isRound_42 ?_
            refine j_aload_n C 1 rfl rfl dX6_isRound_44 ?_
            refine j_iload C 6 rfl dX6_isRound_45 ?_
            refine j_iload_n C 4 rfl rfl dX6_isRound_47 ?_
            obtain ⟨r6, hr6, h⟩ := Ob_of h
            refine q_X6_120 C (wc := (mW b gm mod_thrown mod_places mod_firings mod_fired mod_logged mod_tokens mod_weights mod_logs mod_marks mod_whence mod_by mod_leads mod_comes mod_costs mod_next mod_found)) (wc' := (mW b gm mod_thrown mod_places mod_firings mod_fired mod_logged mod_tokens mod_weights mod_logs mod_marks mod_whence mod_by mod_leads mod_comes mod_costs mod_next mod_found)) (c_X6_change l D b gm mod_thrown mod_places mod_firings mod_fired mod_logged mod_tokens mod_weights mod_logs mod_marks mod_whence mod_by mod_leads mod_comes mod_costs mod_next mod_found l5 l3 r6 hr6) ⟨(Nat.le_of_ble_eq_true rfl), (Nat.le_of_ble_eq_true rfl)⟩ rfl rfl 0 rfl rfl (ww _) (ww _) rfl C.2.2.2.2.2.2.1 (Nat.le_of_ble_eq_true rfl) rfl rfl (Nat.zero_le _) (Nat.zero_le _) dX6_isRound_48 ?_
            refine j_imul C dX6_isRound_51 ?_
            refine j_iadd C dX6_isRound_52 ?_
            refine j_nm h (fun v7 h => ?_)
            refine j_istore C [(4, .int (vI v7)), (6, .int (vI r5)), (0, .ref (b 0)), (1, .int (vI l1)), (2, .int (vI l2)), (3, .int (vI l3)), (5, .int (vI l5))] rfl (by decide) dX6_isRound_53 ?_
            refine j_iload_n C 4 rfl rfl dX6_isRound_55 ?_
            refine j_if_eq C h 79 (by decide) dX6_isRound_56 (fun c11 h => ?_) (fun c11 h => ?_)
            · refine j_lv [2, 3, 5, 0, 6] rfl ?_
              exact J79 l1 l3 v7 l5 h
            · refine j_iload C 1 rfl dX6_isRound_59 ?_
              refine j_if_eq C h 75 (by decide) dX6_isRound_61 (fun c10 h => ?_) (fun c10 h => ?_)
              · refine j_lv [2, 3, 5, 0, 6] rfl ?_
                exact J75 l1 l3 v7 l5 h
              · refine j_aload_n C 2 rfl rfl dX6_isRound_64 ?_
                refine j_iconst C dX6_isRound_65 ?_
                refine j_iload C 6 rfl dX6_isRound_66 ?_
                refine j_iload_n C 5 rfl rfl dX6_isRound_68 ?_
                obtain ⟨r8, hr8, h⟩ := Ob_of h
                refine q_X6_68 C (wc := (mW b gm mod_thrown mod_places mod_firings mod_fired mod_logged mod_tokens mod_weights mod_logs mod_marks mod_whence mod_by mod_leads mod_comes mod_costs mod_next mod_found)) (wc' := (mW b gm mod_thrown mod_places mod_firings mod_fired mod_logged mod_tokens mod_weights mod_logs mod_marks mod_whence mod_by mod_leads mod_comes mod_costs mod_next mod_found)) (c_X6_weight l D b gm mod_thrown mod_places mod_firings mod_fired mod_logged mod_tokens mod_weights mod_logs mod_marks mod_whence mod_by mod_leads mod_comes mod_costs mod_next mod_found 4 l5 l3 r8 hr8) ⟨(Nat.le_of_ble_eq_true rfl), (Nat.le_of_ble_eq_true rfl)⟩ rfl rfl 0 rfl rfl (ww _) (ww _) rfl C.2.2.2.2.2.2.1 (Nat.le_of_ble_eq_true rfl) rfl rfl (Nat.zero_le _) (Nat.zero_le _) dX6_isRound_69 ?_
                refine j_if_ne C h 79 (by decide) dX6_isRound_72 (fun c9 h => ?_) (fun c9 h => ?_)
                · refine j_lv [2, 3, 5, 0, 6] rfl ?_
                  exact J79 l1 l3 v7 l5 h
                · refine j_lv [2, 3, 5, 0, 6] rfl ?_
                  exact J75 l1 l3 v7 l5 h
      unfold F_X6_isRound_b4_body at h
      refine j_iload_n C 3 rfl rfl dX6_isRound_4 ?_
      refine j_aload_n C 0 rfl rfl dX6_isRound_5 ?_
      refine g_X6_48 C (v := .int (vI mod_places)) 0 rfl rfl dX6_isRound_6 ?_
      refine j_icmp_ge C h 108 (by decide) dX6_isRound_9 (fun c14 h => ?_) (fun c14 h => ?_)
      · refine j_iload_n C 2 rfl rfl dX6_isRound_108 ?_
        obtain ⟨hz13, h⟩ := G_of h
        cases h
        exact RET _ _ hz13 dX6_isRound_109
      · refine j_iconst C dX6_isRound_12 ?_
        refine j_istore C [(4, .int (vI 0)), (0, .ref (b 0)), (1, .int (vI l1)), (2, .int (vI l2)), (3, .int (vI l3))] rfl (by decide) dX6_isRound_13 ?_
        refine j_iconst C dX6_isRound_15 ?_
        refine j_istore C [(5, .int (vI 0)), (4, .int (vI 0)), (0, .ref (b 0)), (1, .int (vI l1)), (2, .int (vI l2)), (3, .int (vI l3))] rfl (by decide) dX6_isRound_16 ?_
        refine j_lv [2, 3, 4, 5, 1, 0] rfl ?_
        exact J18 NN l1 l2 l3 0 0 h
  unfold F_X6_isRound at h
  refine j_iconst C dX6_isRound_0 ?_
  refine j_istore_n C [(2, .int (vI 1)), (0, .ref (b 0)), (1, .int (vI x1))] rfl rfl (by decide) dX6_isRound_1 ?_
  refine j_iconst C dX6_isRound_2 ?_
  refine j_istore_n C [(3, .int (vI 0)), (2, .int (vI 1)), (0, .ref (b 0)), (1, .int (vI x1))] rfl rfl (by decide) dX6_isRound_3 ?_
  refine j_lv [2, 3, 1, 0] rfl ?_
  exact J4 NN x1 1 0 h
theorem c_X6_isRound (l : Launch) (D : va_G) (b : Nat → Nat) (gm : Nat → ClassId) (mod_thrown : Int) (mod_places : Int) (mod_firings : Int) (mod_fired : Int) (mod_logged : Int) (mod_tokens : Nat → Int) (mod_weights : Nat → Int) (mod_logs : Nat → Int) (mod_marks : Nat → Int) (mod_whence : Nat → Int) (mod_by : Nat → Int) (mod_leads : Nat → Int) (mod_comes : Nat → Int) (mod_costs : Nat → Int) (mod_next : Nat → Int) (mod_found : Nat → Int) (x1 : Int) (res : Int) (h : F_X6_isRound x1 mod_places mod_firings mod_weights = some res) : Kt l yX6_isRound cX6_isRound 7 (some .boolean) ({ frames := 2, cells := 0, slots := 0, locals := 45 } : Room) D (mT gm) [.ref (b 0), .int (vI x1)] (mW b gm mod_thrown mod_places mod_firings mod_fired mod_logged mod_tokens mod_weights mod_logs mod_marks mod_whence mod_by mod_leads mod_comes mod_costs mod_next mod_found) (mW b gm mod_thrown mod_places mod_firings mod_fired mod_logged mod_tokens mod_weights mod_logs mod_marks mod_whence mod_by mod_leads mod_comes mod_costs mod_next mod_found) (some (.int (vI res))) :=
  kt_z rfl (by decide +kernel) (Nat.le_of_ble_eq_true rfl) (fun C RET => k_X6_isRound C x1 res h RET)
set_option maxRecDepth 100000 in
set_option maxHeartbeats 4000000 in
theorem k_X6_isBelow {ws : va_W} {tys : List (ClassId × FieldType)} (C : JC p s m args meth c cX6_isBelow 6 "MarkingHallModel" D tys A) (x0 : Int) (x1 : Int) (x2 : Int) (res : Int) (h : F_X6_isBelow x0 x1 x2 = some res) (RET : ∀ (pc : Nat) (lv : List (Nat × Value)), (res = 0 ∨ res = 1) → decode cX6_isBelow pc = .ok (.ireturn, 1) → J p l e ({ frames := 0, cells := 0, slots := 0, locals := 0 } : Room) s m args below meth c D A 6 Q 0 0 ws pc lv [.int (vI res)]) : J p l e ({ frames := 0, cells := 0, slots := 0, locals := 0 } : Room) s m args below meth c D A 6 Q 0 0 ws 0 [(0, .int (vI x0)), (1, .int (vI x1)), (2, .int (vI x2))] [] := by
  have J8 : ∀ (n : Nat) (l2 : Int) (l3 : Int) (l4 : Int) (l5 : Int), F_X6_isBelow_b8 n l2 l3 l4 l5 = some res → J p l e ({ frames := 0, cells := 0, slots := 0, locals := 0 } : Room) s m args below meth c D A 6 Q 0 0 ws 8 [(2, .int (vI l2)), (3, .int (vI l3)), (4, .int (vI l4)), (5, .int (vI l5))] [] := by
    intro n
    induction n with
    | zero => intro l2 l3 l4 l5 h; exact no_h h
    | succ n ih8 =>
      intro l2 l3 l4 l5 h
      replace h : F_X6_isBelow_b8_body (F_X6_isBelow_b8 n) l2 l3 l4 l5 = some res := h
      generalize F_X6_isBelow_b8 n = ag8 at ih8 h
      have J32 : ∀ (l2 : Int) (l3 : Int) (l4 : Int) (s0 : Int), F_X6_isBelow_b32 ag8 l2 l3 l4 s0 = some res → J p l e ({ frames := 0, cells := 0, slots := 0, locals := 0 } : Room) s m args below meth c D A 6 Q 0 0 ws 32 [(2, .int (vI l2)), (3, .int (vI l3)), (4, .int (vI l4))] [.int (vI s0)] := by
        intro l2 l3 l4 s0 h
        unfold F_X6_isBelow_b32 at h
        refine j_istore C [(5, .int (vI s0)), (2, .int (vI l2)), (3, .int (vI l3)), (4, .int (vI l4))] rfl (by decide) dX6_isBelow_32 ?_
        refine j_iload_n C 2 rfl rfl dX6_isBelow_34 ?_
        refine j_iload_n C 1 rfl rfl dX6_isBelow_35 ?_
        refine j_idiv C h dX6_isBelow_36 (fun h => ?_)
        refine j_nm h (fun v1 h => ?_)
        refine j_istore_n C [(3, .int (vI v1)), (5, .int (vI s0)), (2, .int (vI l2)), (4, .int (vI l4))] rfl rfl (by decide) dX6_isBelow_37 ?_
        refine j_iload C 3 rfl dX6_isBelow_38 ?_
        refine j_iload_n C 2 rfl rfl dX6_isBelow_40 ?_
        refine j_idiv C h dX6_isBelow_41 (fun h => ?_)
        refine j_nm h (fun v2 h => ?_)
        refine j_istore C [(4, .int (vI v2)), (3, .int (vI v1)), (5, .int (vI s0)), (2, .int (vI l2))] rfl (by decide) dX6_isBelow_42 ?_
        refine j_goto C 8 (by decide) dX6_isBelow_44 ?_
        refine j_lv [3, 1, 0, 2] rfl ?_
        exact ih8 l2 v1 v2 s0 h
      have J31 : ∀ (l2 : Int) (l3 : Int) (l4 : Int), F_X6_isBelow_b31 ag8 l2 l3 l4 = some res → J p l e ({ frames := 0, cells := 0, slots := 0, locals := 0 } : Room) s m args below meth c D A 6 Q 0 0 ws 31 [(2, .int (vI l2)), (3, .int (vI l3)), (4, .int (vI l4))] [] := by
        intro l2 l3 l4 h
        unfold F_X6_isBelow_b31 at h
        refine j_iconst C dX6_isBelow_31 ?_
        exact J32 l2 l3 l4 0 h
      unfold F_X6_isBelow_b8_body at h
      refine j_iload_n C 1 rfl rfl dX6_isBelow_8 ?_
      refine j_if_le C h 47 (by decide) dX6_isBelow_9 (fun c8 h => ?_) (fun c8 h => ?_)
      · refine j_iload C 3 rfl dX6_isBelow_47 ?_
        obtain ⟨hz3, h⟩ := G_of h
        cases h
        exact RET _ _ hz3 dX6_isBelow_49
      · refine j_iload C 3 rfl dX6_isBelow_12 ?_
        refine j_if_eq C h 31 (by decide) dX6_isBelow_14 (fun c7 h => ?_) (fun c7 h => ?_)
        · refine j_lv [0, 1, 2] rfl ?_
          exact J31 l2 l3 l4 h
        · refine j_iload_n C 1 rfl rfl dX6_isBelow_17 ?_
          refine j_iload_n C 0 rfl rfl dX6_isBelow_18 ?_
          refine j_irem C h dX6_isBelow_19 (fun h => ?_)
          refine j_iload C 2 rfl dX6_isBelow_20 ?_
          refine j_iload_n C 0 rfl rfl dX6_isBelow_22 ?_
          refine j_irem C h dX6_isBelow_23 (fun h => ?_)
          refine j_nm h (fun v4 h => ?_)
          refine j_nm2 h (fun v5 h => ?_)
          refine j_icmp_gt C h 31 (by decide) dX6_isBelow_24 (fun c6 h => ?_) (fun c6 h => ?_)
          · refine j_lv [0, 1, 2] rfl ?_
            exact J31 l2 l3 l4 h
          · refine j_iconst C dX6_isBelow_27 ?_
            refine j_goto C 32 (by decide) dX6_isBelow_28 ?_
            refine j_lv [0, 1, 2] rfl ?_
            exact J32 l2 l3 l4 1 h
  unfold F_X6_isBelow at h
  refine j_iload_n C 0 rfl rfl dX6_isBelow_0 ?_
  refine j_istore_n C [(3, .int (vI x0)), (0, .int (vI x0)), (1, .int (vI x1)), (2, .int (vI x2))] rfl rfl (by decide) dX6_isBelow_1 ?_
  refine j_iload_n C 2 rfl rfl dX6_isBelow_2 ?_
  refine j_istore C [(4, .int (vI x1)), (3, .int (vI x0)), (0, .int (vI x0)), (1, .int (vI x1)), (2, .int (vI x2))] rfl (by decide) dX6_isBelow_3 ?_
  refine j_iconst C dX6_isBelow_5 ?_
  refine j_istore C [(5, .int (vI 1)), (4, .int (vI x1)), (3, .int (vI x0)), (0, .int (vI x0)), (1, .int (vI x1)), (2, .int (vI x2))] rfl (by decide) dX6_isBelow_6 ?_
  refine j_lv [5, 2, 1, 0] rfl ?_
  exact J8 NN x2 x0 x1 1 h
theorem c_X6_isBelow (l : Launch) (D : va_G) (tys : List (ClassId × FieldType)) (ws : va_W) (x0 : Int) (x1 : Int) (x2 : Int) (res : Int) (h : F_X6_isBelow x0 x1 x2 = some res) : Kt l yX6_isBelow cX6_isBelow 6 (some .boolean) ({ frames := 0, cells := 0, slots := 0, locals := 0 } : Room) D tys [.int (vI x0), .int (vI x1), .int (vI x2)] ws ws (some (.int (vI res))) :=
  kt_z rfl (by decide +kernel) (Nat.le_of_ble_eq_true rfl) (fun C RET => k_X6_isBelow C x0 x1 x2 res h RET)
set_option maxRecDepth 100000 in
set_option maxHeartbeats 4000000 in
theorem k_X6_findLeast {b : Nat → Nat} {gm : Nat → ClassId} {mod_thrown : Int} {mod_places : Int} {mod_firings : Int} {mod_fired : Int} {mod_logged : Int} {mod_tokens : Nat → Int} {mod_weights : Nat → Int} {mod_logs : Nat → Int} {mod_marks : Nat → Int} {mod_whence : Nat → Int} {mod_by : Nat → Int} {mod_leads : Nat → Int} {mod_comes : Nat → Int} {mod_costs : Nat → Int} {mod_next : Nat → Int} {mod_found : Nat → Int} (C : JC p s m args meth c cX6_findLeast 8 "MarkingHallModel" D (mT gm) A) (x1 : Int) (res : Int × (Nat → Int)) (h : F_X6_findLeast x1 mod_places mod_firings mod_weights mod_found = some res) (RET : ∀ (pc : Nat) (lv : List (Nat × Value)), decode cX6_findLeast pc = .ok (.ireturn, 1) → J p l e ({ frames := 3, cells := 0, slots := 0, locals := 71 } : Room) s m args below meth c D A 8 Q 0 0 (mW b gm mod_thrown mod_places mod_firings mod_fired mod_logged mod_tokens mod_weights mod_logs mod_marks mod_whence mod_by mod_leads mod_comes mod_costs mod_next res.2) pc lv [.int (vI res.1)]) : J p l e ({ frames := 3, cells := 0, slots := 0, locals := 71 } : Room) s m args below meth c D A 8 Q 0 0 (mW b gm mod_thrown mod_places mod_firings mod_fired mod_logged mod_tokens mod_weights mod_logs mod_marks mod_whence mod_by mod_leads mod_comes mod_costs mod_next mod_found) 0 [(0, .ref (b 0)), (1, .int (vI x1))] [] := by
  have J51 : ∀ (n : Nat) (l1 : Int) (l2 : Int) (l3 : Int) (l4 : Int) (l5 : Int) (mod_found : Nat → Int), F_X6_findLeast_b51 mod_places mod_firings mod_weights n l1 l2 l3 l4 l5 mod_found = some res → J p l e ({ frames := 3, cells := 0, slots := 0, locals := 71 } : Room) s m args below meth c D A 8 Q 0 0 (mW b gm mod_thrown mod_places mod_firings mod_fired mod_logged mod_tokens mod_weights mod_logs mod_marks mod_whence mod_by mod_leads mod_comes mod_costs mod_next mod_found) 51 [(0, .ref (b 0)), (1, .int (vI l1)), (2, .int (vI l2)), (3, .int (vI l3)), (4, .int (vI l4)), (5, .int (vI l5))] [] := by
    intro n
    induction n with
    | zero => intro l1 l2 l3 l4 l5 mod_found h; exact no_h h
    | succ n ih51 =>
      intro l1 l2 l3 l4 l5 mod_found h
      replace h : F_X6_findLeast_b51_body mod_places mod_firings mod_weights (F_X6_findLeast_b51 mod_places mod_firings mod_weights n) l1 l2 l3 l4 l5 mod_found = some res := h
      generalize F_X6_findLeast_b51 mod_places mod_firings mod_weights n = ag51 at ih51 h
      have J139 : ∀ (l1 : Int) (l2 : Int) (l3 : Int) (l4 : Int) (l5 : Int) (mod_found : Nat → Int), F_X6_findLeast_b139 mod_places mod_firings mod_weights ag51 l1 l2 l3 l4 l5 mod_found = some res → J p l e ({ frames := 3, cells := 0, slots := 0, locals := 71 } : Room) s m args below meth c D A 8 Q 0 0 (mW b gm mod_thrown mod_places mod_firings mod_fired mod_logged mod_tokens mod_weights mod_logs mod_marks mod_whence mod_by mod_leads mod_comes mod_costs mod_next mod_found) 139 [(0, .ref (b 0)), (1, .int (vI l1)), (2, .int (vI l2)), (3, .int (vI l3)), (4, .int (vI l4)), (5, .int (vI l5))] [] := by
        intro l1 l2 l3 l4 l5 mod_found h
        unfold F_X6_findLeast_b139 at h
        refine j_iinc C 5 rfl (fun v => [(5, .int (vI v)), (0, .ref (b 0)), (1, .int (vI l1)), (2, .int (vI l2)), (3, .int (vI l3)), (4, .int (vI l4))]) (fun _ => rfl) (by decide) h dX6_findLeast_139 (fun v1 h => ?_)
        refine j_goto C 51 (by decide) dX6_findLeast_142 ?_
        refine j_lv [1, 2, 3, 4, 5, 0] rfl ?_
        exact ih51 l1 l2 l3 l4 v1 mod_found h
      have J122 : ∀ (l1 : Int) (l2 : Int) (l3 : Int) (l4 : Int) (l5 : Int) (l6 : Int) (mod_found : Nat → Int), F_X6_findLeast_b122 mod_places mod_firings mod_weights ag51 l1 l2 l3 l4 l5 l6 mod_found = some res → J p l e ({ frames := 3, cells := 0, slots := 0, locals := 71 } : Room) s m args below meth c D A 8 Q 0 0 (mW b gm mod_thrown mod_places mod_firings mod_fired mod_logged mod_tokens mod_weights mod_logs mod_marks mod_whence mod_by mod_leads mod_comes mod_costs mod_next mod_found) 122 [(0, .ref (b 0)), (1, .int (vI l1)), (2, .int (vI l2)), (3, .int (vI l3)), (4, .int (vI l4)), (5, .int (vI l5)), (6, .int (vI l6))] [] := by
        intro l1 l2 l3 l4 l5 l6 mod_found h
        unfold F_X6_findLeast_b122 at h
        refine j_iload C 6 rfl dX6_findLeast_122 ?_
        refine j_if_eq C h 139 (by decide) dX6_findLeast_124 (fun c4 h => ?_) (fun c4 h => ?_)
        · refine j_lv [0, 1, 2, 3, 4, 5] rfl ?_
          exact J139 l1 l2 l3 l4 l5 mod_found h
        · refine j_aload_n C 0 rfl rfl dX6_findLeast_127 ?_
          refine g_X6_41 C (v := .ref (b 11)) 0 rfl rfl dX6_findLeast_128 ?_
          refine j_iload C 4 rfl dX6_findLeast_131 ?_
          refine j_iload C 5 rfl dX6_findLeast_133 ?_
          refine j_iast C 11 10 rfl rfl (Nat.le_of_ble_eq_true rfl) (fun f' => (mW b gm mod_thrown mod_places mod_firings mod_fired mod_logged mod_tokens mod_weights mod_logs mod_marks mod_whence mod_by mod_leads mod_comes mod_costs mod_next f')) (fun _ => rfl) h dX6_findLeast_135 (fun f2 h => ?_)
          refine j_iinc C 4 rfl (fun v => [(4, .int (vI v)), (0, .ref (b 0)), (1, .int (vI l1)), (2, .int (vI l2)), (3, .int (vI l3)), (5, .int (vI l5)), (6, .int (vI l6))]) (fun _ => rfl) (by decide) h dX6_findLeast_136 (fun v3 h => ?_)
          refine j_lv [1, 2, 3, 4, 0, 5] rfl ?_
          exact J139 l1 l2 l3 v3 l5 f2 h
      have J81 : ∀ (n : Nat) (l1 : Int) (l2 : Int) (l3 : Int) (l4 : Int) (l5 : Int) (l6 : Int) (l7 : Int) (mod_found : Nat → Int), F_X6_findLeast_b81 mod_places mod_firings mod_weights ag51 n l1 l2 l3 l4 l5 l6 l7 mod_found = some res → J p l e ({ frames := 3, cells := 0, slots := 0, locals := 71 } : Room) s m args below meth c D A 8 Q 0 0 (mW b gm mod_thrown mod_places mod_firings mod_fired mod_logged mod_tokens mod_weights mod_logs mod_marks mod_whence mod_by mod_leads mod_comes mod_costs mod_next mod_found) 81 [(0, .ref (b 0)), (1, .int (vI l1)), (2, .int (vI l2)), (3, .int (vI l3)), (4, .int (vI l4)), (5, .int (vI l5)), (6, .int (vI l6)), (7, .int (vI l7))] [] := by
        intro n
        induction n with
        | zero => intro l1 l2 l3 l4 l5 l6 l7 mod_found h; exact no_h h
        | succ n ih81 =>
          intro l1 l2 l3 l4 l5 l6 l7 mod_found h
          replace h : F_X6_findLeast_b81_body mod_places mod_firings mod_weights ag51 (F_X6_findLeast_b81 mod_places mod_firings mod_weights ag51 n) l1 l2 l3 l4 l5 l6 l7 mod_found = some res := h
          generalize F_X6_findLeast_b81 mod_places mod_firings mod_weights ag51 n = ag81 at ih81 h
          have J114 : ∀ (l1 : Int) (l2 : Int) (l3 : Int) (l4 : Int) (l5 : Int) (l7 : Int) (s0 : Int) (mod_found : Nat → Int), F_X6_findLeast_b114 mod_places mod_firings mod_weights ag51 ag81 l1 l2 l3 l4 l5 l7 s0 mod_found = some res → J p l e ({ frames := 3, cells := 0, slots := 0, locals := 71 } : Room) s m args below meth c D A 8 Q 0 0 (mW b gm mod_thrown mod_places mod_firings mod_fired mod_logged mod_tokens mod_weights mod_logs mod_marks mod_whence mod_by mod_leads mod_comes mod_costs mod_next mod_found) 114 [(0, .ref (b 0)), (1, .int (vI l1)), (2, .int (vI l2)), (3, .int (vI l3)), (4, .int (vI l4)), (5, .int (vI l5)), (7, .int (vI l7))] [.int (vI s0)] := by
            intro l1 l2 l3 l4 l5 l7 s0 mod_found h
            unfold F_X6_findLeast_b114 at h
            refine j_istore C [(6, .int (vI s0)), (0, .ref (b 0)), (1, .int (vI l1)), (2, .int (vI l2)), (3, .int (vI l3)), (4, .int (vI l4)), (5, .int (vI l5)), (7, .int (vI l7))] rfl (by decide) dX6_findLeast_114 ?_
            refine j_iinc C 7 rfl (fun v => [(7, .int (vI v)), (6, .int (vI s0)), (0, .ref (b 0)), (1, .int (vI l1)), (2, .int (vI l2)), (3, .int (vI l3)), (4, .int (vI l4)), (5, .int (vI l5))]) (fun _ => rfl) (by decide) h dX6_findLeast_116 (fun v5 h => ?_)
            refine j_goto C 81 (by decide) dX6_findLeast_119 ?_
            refine j_lv [2, 3, 4, 5, 6, 7, 1, 0] rfl ?_
            exact ih81 l1 l2 l3 l4 l5 s0 v5 mod_found h
          unfold F_X6_findLeast_b81_body at h
          refine j_iload C 7 rfl dX6_findLeast_81 ?_
          refine j_iload C 4 rfl dX6_findLeast_83 ?_
          refine j_icmp_ge C h 122 (by decide) dX6_findLeast_85 (fun c10 h => ?_) (fun c10 h => ?_)
          · refine j_lv [0, 1, 2, 3, 4, 5, 6] rfl ?_
            exact J122 l1 l2 l3 l4 l5 l6 mod_found h
          · refine j_iload C 6 rfl dX6_findLeast_88 ?_
            refine j_if_eq C h 122 (by decide) dX6_findLeast_90 (fun c9 h => ?_) (fun c9 h => ?_)
            · refine j_lv [0, 1, 2, 3, 4, 5, 6] rfl ?_
              exact J122 l1 l2 l3 l4 l5 l6 mod_found h
            · refine j_aload_n C 0 rfl rfl dX6_findLeast_93 ?_
              refine g_X6_41 C (v := .ref (b 11)) 0 rfl rfl dX6_findLeast_94 ?_
              refine j_iload C 7 rfl dX6_findLeast_97 ?_
              refine j_iald C 11 10 rfl rfl (Nat.le_of_ble_eq_true rfl) h dX6_findLeast_99 (fun v6 h => ?_)
              refine j_iload C 5 rfl dX6_findLeast_100 ?_
              refine j_iload_n C 2 rfl rfl dX6_findLeast_102 ?_
              obtain ⟨r7, hr7, h⟩ := Ob_of h
              refine q_X6_129 C (wc := (mW b gm mod_thrown mod_places mod_firings mod_fired mod_logged mod_tokens mod_weights mod_logs mod_marks mod_whence mod_by mod_leads mod_comes mod_costs mod_next mod_found)) (wc' := (mW b gm mod_thrown mod_places mod_firings mod_fired mod_logged mod_tokens mod_weights mod_logs mod_marks mod_whence mod_by mod_leads mod_comes mod_costs mod_next mod_found)) (c_X6_isBelow l D _ _ v6 l5 l2 r7 hr7) ⟨(Nat.le_of_ble_eq_true rfl), (Nat.le_of_ble_eq_true rfl)⟩ rfl rfl rfl (ww _) (ww _) rfl C.2.2.2.2.2.2.1 (Nat.le_of_ble_eq_true rfl) rfl rfl (Nat.zero_le _) (Nat.zero_le _) dX6_findLeast_103 ?_
              refine j_if_ne C h 113 (by decide) dX6_findLeast_106 (fun c8 h => ?_) (fun c8 h => ?_)
              · refine j_iconst C dX6_findLeast_113 ?_
                refine j_lv [0, 1, 2, 3, 4, 5, 7] rfl ?_
                exact J114 l1 l2 l3 l4 l5 l7 0 mod_found h
              · refine j_iconst C dX6_findLeast_109 ?_
                refine j_goto C 114 (by decide) dX6_findLeast_110 ?_
                refine j_lv [0, 1, 2, 3, 4, 5, 7] rfl ?_
                exact J114 l1 l2 l3 l4 l5 l7 1 mod_found h
      have J76 : ∀ (l1 : Int) (l2 : Int) (l3 : Int) (l4 : Int) (l5 : Int) (s0 : Int) (mod_found : Nat → Int), F_X6_findLeast_b76 mod_places mod_firings mod_weights ag51 l1 l2 l3 l4 l5 s0 mod_found = some res → J p l e ({ frames := 3, cells := 0, slots := 0, locals := 71 } : Room) s m args below meth c D A 8 Q 0 0 (mW b gm mod_thrown mod_places mod_firings mod_fired mod_logged mod_tokens mod_weights mod_logs mod_marks mod_whence mod_by mod_leads mod_comes mod_costs mod_next mod_found) 76 [(0, .ref (b 0)), (1, .int (vI l1)), (2, .int (vI l2)), (3, .int (vI l3)), (4, .int (vI l4)), (5, .int (vI l5))] [.int (vI s0)] := by
        intro l1 l2 l3 l4 l5 s0 mod_found h
        unfold F_X6_findLeast_b76 at h
        refine j_istore C [(6, .int (vI s0)), (0, .ref (b 0)), (1, .int (vI l1)), (2, .int (vI l2)), (3, .int (vI l3)), (4, .int (vI l4)), (5, .int (vI l5))] rfl (by decide) dX6_findLeast_76 ?_
        refine j_iconst C dX6_findLeast_78 ?_
        refine j_istore C [(7, .int (vI 0)), (6, .int (vI s0)), (0, .ref (b 0)), (1, .int (vI l1)), (2, .int (vI l2)), (3, .int (vI l3)), (4, .int (vI l4)), (5, .int (vI l5))] rfl (by decide) dX6_findLeast_79 ?_
        refine j_lv [2, 3, 4, 5, 6, 7, 1, 0] rfl ?_
        exact J81 NN l1 l2 l3 l4 l5 s0 0 mod_found h
      unfold F_X6_findLeast_b51_body at h
      refine j_iload C 5 rfl dX6_findLeast_51 ?_
      refine j_iload_n C 3 rfl rfl dX6_findLeast_53 ?_
      refine j_icmp_ge C h 145 (by decide) dX6_findLeast_54 (fun c14 h => ?_) (fun c14 h => ?_)
      · refine j_iload C 4 rfl dX6_findLeast_145 ?_
        cases h
        exact RET _ _ dX6_findLeast_147
      · refine j_iload_n C 1 rfl rfl dX6_findLeast_57 ?_
        refine j_if_eq C h 70 (by decide) dX6_findLeast_58 (fun c13 h => ?_) (fun c13 h => ?_)
        · refine j_aload_n C 0 rfl rfl dX6_findLeast_70 ?_
          refine j_iload C 5 rfl dX6_findLeast_71 ?_
          obtain ⟨r11, hr11, h⟩ := Ob_of h
          refine q_X6_126 C (wc := (mW b gm mod_thrown mod_places mod_firings mod_fired mod_logged mod_tokens mod_weights mod_logs mod_marks mod_whence mod_by mod_leads mod_comes mod_costs mod_next mod_found)) (wc' := (mW b gm mod_thrown mod_places mod_firings mod_fired mod_logged mod_tokens mod_weights mod_logs mod_marks mod_whence mod_by mod_leads mod_comes mod_costs mod_next mod_found)) (c_X6_isRound l D b gm mod_thrown mod_places mod_firings mod_fired mod_logged mod_tokens mod_weights mod_logs mod_marks mod_whence mod_by mod_leads mod_comes mod_costs mod_next mod_found l5 r11 hr11) ⟨(Nat.le_of_ble_eq_true rfl), (Nat.le_of_ble_eq_true rfl)⟩ rfl rfl 0 rfl rfl (ww _) (ww _) rfl C.2.2.2.2.2.2.1 (Nat.le_of_ble_eq_true rfl) rfl rfl (Nat.zero_le _) (Nat.zero_le _) dX6_findLeast_73 ?_
          exact J76 l1 l2 l3 l4 l5 r11 mod_found h
        · refine j_aload_n C 0 rfl rfl dX6_findLeast_61 ?_
          refine j_iload C 5 rfl dX6_findLeast_62 ?_
          obtain ⟨r12, hr12, h⟩ := Ob_of h
          refine q_X6_123 C (wc := (mW b gm mod_thrown mod_places mod_firings mod_fired mod_logged mod_tokens mod_weights mod_logs mod_marks mod_whence mod_by mod_leads mod_comes mod_costs mod_next mod_found)) (wc' := (mW b gm mod_thrown mod_places mod_firings mod_fired mod_logged mod_tokens mod_weights mod_logs mod_marks mod_whence mod_by mod_leads mod_comes mod_costs mod_next mod_found)) (c_X6_isRow l D b gm mod_thrown mod_places mod_firings mod_fired mod_logged mod_tokens mod_weights mod_logs mod_marks mod_whence mod_by mod_leads mod_comes mod_costs mod_next mod_found l5 r12 hr12) ⟨(Nat.le_of_ble_eq_true rfl), (Nat.le_of_ble_eq_true rfl)⟩ rfl rfl 0 rfl rfl (ww _) (ww _) rfl C.2.2.2.2.2.2.1 (Nat.le_of_ble_eq_true rfl) rfl rfl (Nat.zero_le _) (Nat.zero_le _) dX6_findLeast_64 ?_
          refine j_goto C 76 (by decide) dX6_findLeast_67 ?_
          exact J76 l1 l2 l3 l4 l5 r12 mod_found h
  have J15 : ∀ (n : Nat) (l1 : Int) (l2 : Int) (l3 : Int) (l4 : Int) (mod_found : Nat → Int), F_X6_findLeast_b15 mod_places mod_firings mod_weights n l1 l2 l3 l4 mod_found = some res → J p l e ({ frames := 3, cells := 0, slots := 0, locals := 71 } : Room) s m args below meth c D A 8 Q 0 0 (mW b gm mod_thrown mod_places mod_firings mod_fired mod_logged mod_tokens mod_weights mod_logs mod_marks mod_whence mod_by mod_leads mod_comes mod_costs mod_next mod_found) 15 [(0, .ref (b 0)), (1, .int (vI l1)), (2, .int (vI l2)), (3, .int (vI l3)), (4, .int (vI l4))] [] := by
    intro n
    induction n with
    | zero => intro l1 l2 l3 l4 mod_found h; exact no_h h
    | succ n ih15 =>
      intro l1 l2 l3 l4 mod_found h
      replace h : F_X6_findLeast_b15_body mod_places mod_firings mod_weights (F_X6_findLeast_b15 mod_places mod_firings mod_weights n) l1 l2 l3 l4 mod_found = some res := h
      generalize F_X6_findLeast_b15 mod_places mod_firings mod_weights n = ag15 at ih15 h
      have J32 : ∀ (l1 : Int) (l2 : Int) (l3 : Int) (l4 : Int) (s0 : Int) (s1 : Int) (mod_found : Nat → Int), F_X6_findLeast_b32 mod_places mod_firings mod_weights ag15 l1 l2 l3 l4 s0 s1 mod_found = some res → J p l e ({ frames := 3, cells := 0, slots := 0, locals := 71 } : Room) s m args below meth c D A 8 Q 0 0 (mW b gm mod_thrown mod_places mod_firings mod_fired mod_logged mod_tokens mod_weights mod_logs mod_marks mod_whence mod_by mod_leads mod_comes mod_costs mod_next mod_found) 32 [(0, .ref (b 0)), (1, .int (vI l1)), (2, .int (vI l2)), (3, .int (vI l3)), (4, .int (vI l4))] [.int (vI s1), .int (vI s0)] := by
        intro l1 l2 l3 l4 s0 s1 mod_found h
        unfold F_X6_findLeast_b32 at h
        refine j_icmp_ge C h 45 (by decide) dX6_findLeast_32 (fun c17 h => ?_) (fun c17 h => ?_)
        · refine j_iconst C dX6_findLeast_45 ?_
          refine j_istore C [(4, .int (vI 0)), (0, .ref (b 0)), (1, .int (vI l1)), (2, .int (vI l2)), (3, .int (vI l3))] rfl (by decide) dX6_findLeast_46 ?_
          refine j_iconst C dX6_findLeast_48 ?_
          refine j_istore C [(5, .int (vI 1)), (4, .int (vI 0)), (0, .ref (b 0)), (1, .int (vI l1)), (2, .int (vI l2)), (3, .int (vI l3))] rfl (by decide) dX6_findLeast_49 ?_
          refine j_lv [2, 3, 4, 5, 1, 0] rfl ?_
          exact J51 NN l1 l2 l3 0 1 mod_found h
        · refine j_iload_n C 3 rfl rfl dX6_findLeast_35 ?_
          refine j_iload_n C 2 rfl rfl dX6_findLeast_36 ?_
          refine j_imul C dX6_findLeast_37 ?_
          refine j_nm h (fun v15 h => ?_)
          refine j_istore_n C [(3, .int (vI v15)), (0, .ref (b 0)), (1, .int (vI l1)), (2, .int (vI l2)), (4, .int (vI l4))] rfl rfl (by decide) dX6_findLeast_38 ?_
          refine j_iinc C 4 rfl (fun v => [(4, .int (vI v)), (3, .int (vI v15)), (0, .ref (b 0)), (1, .int (vI l1)), (2, .int (vI l2))]) (fun _ => rfl) (by decide) h dX6_findLeast_39 (fun v16 h => ?_)
          refine j_goto C 15 (by decide) dX6_findLeast_42 ?_
          refine j_lv [2, 3, 4, 1, 0] rfl ?_
          exact ih15 l1 l2 v15 v16 mod_found h
      unfold F_X6_findLeast_b15_body at h
      refine j_iload C 4 rfl dX6_findLeast_15 ?_
      refine j_iload_n C 1 rfl rfl dX6_findLeast_17 ?_
      refine j_if_eq C h 28 (by decide) dX6_findLeast_18 (fun c18 h => ?_) (fun c18 h => ?_)
      · refine j_aload_n C 0 rfl rfl dX6_findLeast_28 ?_
        refine g_X6_55 C (v := .int (vI mod_firings)) 0 rfl rfl dX6_findLeast_29 ?_
        exact J32 l1 l2 l3 l4 l4 mod_firings mod_found h
      · refine j_aload_n C 0 rfl rfl dX6_findLeast_21 ?_
        refine g_X6_48 C (v := .int (vI mod_places)) 0 rfl rfl dX6_findLeast_22 ?_
        refine j_goto C 32 (by decide) dX6_findLeast_25 ?_
        exact J32 l1 l2 l3 l4 l4 mod_places mod_found h
  have J9 : ∀ (l1 : Int) (s0 : Int) (mod_found : Nat → Int), F_X6_findLeast_b9 mod_places mod_firings mod_weights l1 s0 mod_found = some res → J p l e ({ frames := 3, cells := 0, slots := 0, locals := 71 } : Room) s m args below meth c D A 8 Q 0 0 (mW b gm mod_thrown mod_places mod_firings mod_fired mod_logged mod_tokens mod_weights mod_logs mod_marks mod_whence mod_by mod_leads mod_comes mod_costs mod_next mod_found) 9 [(0, .ref (b 0)), (1, .int (vI l1))] [.int (vI s0)] := by
    intro l1 s0 mod_found h
    unfold F_X6_findLeast_b9 at h
    refine j_istore_n C [(2, .int (vI s0)), (0, .ref (b 0)), (1, .int (vI l1))] rfl rfl (by decide) dX6_findLeast_9 ?_
    refine j_iconst C dX6_findLeast_10 ?_
    refine j_istore_n C [(3, .int (vI 1)), (2, .int (vI s0)), (0, .ref (b 0)), (1, .int (vI l1))] rfl rfl (by decide) dX6_findLeast_11 ?_
    refine j_iconst C dX6_findLeast_12 ?_
    refine j_istore C [(4, .int (vI 0)), (3, .int (vI 1)), (2, .int (vI s0)), (0, .ref (b 0)), (1, .int (vI l1))] rfl (by decide) dX6_findLeast_13 ?_
    refine j_lv [3, 4, 2, 1, 0] rfl ?_
    exact J15 NN l1 s0 1 0 mod_found h
  unfold F_X6_findLeast at h
  refine j_iload_n C 1 rfl rfl dX6_findLeast_0 ?_
  refine j_if_eq C h 8 (by decide) dX6_findLeast_1 (fun c19 h => ?_) (fun c19 h => ?_)
  · refine j_iconst C dX6_findLeast_8 ?_
    exact J9 x1 3 mod_found h
  · refine j_iconst C dX6_findLeast_4 ?_
    refine j_goto C 9 (by decide) dX6_findLeast_5 ?_
    exact J9 x1 4 mod_found h
theorem c_X6_findLeast (l : Launch) (D : va_G) (b : Nat → Nat) (gm : Nat → ClassId) (mod_thrown : Int) (mod_places : Int) (mod_firings : Int) (mod_fired : Int) (mod_logged : Int) (mod_tokens : Nat → Int) (mod_weights : Nat → Int) (mod_logs : Nat → Int) (mod_marks : Nat → Int) (mod_whence : Nat → Int) (mod_by : Nat → Int) (mod_leads : Nat → Int) (mod_comes : Nat → Int) (mod_costs : Nat → Int) (mod_next : Nat → Int) (mod_found : Nat → Int) (x1 : Int) (res : Int × (Nat → Int)) (h : F_X6_findLeast x1 mod_places mod_firings mod_weights mod_found = some res) : Kt l yX6_findLeast cX6_findLeast 8 (some .int) ({ frames := 3, cells := 0, slots := 0, locals := 71 } : Room) D (mT gm) [.ref (b 0), .int (vI x1)] (mW b gm mod_thrown mod_places mod_firings mod_fired mod_logged mod_tokens mod_weights mod_logs mod_marks mod_whence mod_by mod_leads mod_comes mod_costs mod_next mod_found) (mW b gm mod_thrown mod_places mod_firings mod_fired mod_logged mod_tokens mod_weights mod_logs mod_marks mod_whence mod_by mod_leads mod_comes mod_costs mod_next res.2) (some (.int (vI res.1))) :=
  kt_i (ty := .int) rfl rfl (by decide +kernel) (Nat.le_of_ble_eq_true rfl) (fun C RET => k_X6_findLeast C x1 res h RET)
set_option maxRecDepth 100000 in
set_option maxHeartbeats 4000000 in
theorem k_X6_rows {b : Nat → Nat} {gm : Nat → ClassId} {mod_thrown : Int} {mod_places : Int} {mod_firings : Int} {mod_fired : Int} {mod_logged : Int} {mod_tokens : Nat → Int} {mod_weights : Nat → Int} {mod_logs : Nat → Int} {mod_marks : Nat → Int} {mod_whence : Nat → Int} {mod_by : Nat → Int} {mod_leads : Nat → Int} {mod_comes : Nat → Int} {mod_costs : Nat → Int} {mod_next : Nat → Int} {mod_found : Nat → Int} (C : JC p s m args meth c cX6_rows 1 "MarkingHallModel" D (mT gm) A)  (res : Int × (Int) × (Nat → Int)) (h : F_X6_rows mod_places mod_firings mod_weights mod_thrown mod_found = some res) (RET : ∀ (pc : Nat) (lv : List (Nat × Value)), decode cX6_rows pc = .ok (.ireturn, 1) → J p l e ({ frames := 4, cells := 0, slots := 0, locals := 98 } : Room) s m args below meth c D A 1 Q 0 0 (mW b gm res.2.1 mod_places mod_firings mod_fired mod_logged mod_tokens mod_weights mod_logs mod_marks mod_whence mod_by mod_leads mod_comes mod_costs mod_next res.2.2) pc lv [.int (vI res.1)]) : J p l e ({ frames := 4, cells := 0, slots := 0, locals := 98 } : Room) s m args below meth c D A 1 Q 0 0 (mW b gm mod_thrown mod_places mod_firings mod_fired mod_logged mod_tokens mod_weights mod_logs mod_marks mod_whence mod_by mod_leads mod_comes mod_costs mod_next mod_found) 0 [(0, .ref (b 0))] [] := by
  unfold F_X6_rows at h
  refine j_aload_n C 0 rfl rfl dX6_rows_0 ?_
  refine j_iconst C dX6_rows_1 ?_
  refine p_X6_44 C 0 rfl (Nat.le_of_ble_eq_true rfl) (mW b gm 0 mod_places mod_firings mod_fired mod_logged mod_tokens mod_weights mod_logs mod_marks mod_whence mod_by mod_leads mod_comes mod_costs mod_next mod_found) rfl dX6_rows_2 ?_
  refine j_aload_n C 0 rfl rfl dX6_rows_5 ?_
  refine j_iconst C dX6_rows_6 ?_
  obtain ⟨r1, hr1, h⟩ := Ob_of h
  refine q_X6_132 C (wc := (mW b gm 0 mod_places mod_firings mod_fired mod_logged mod_tokens mod_weights mod_logs mod_marks mod_whence mod_by mod_leads mod_comes mod_costs mod_next mod_found)) (wc' := (mW b gm 0 mod_places mod_firings mod_fired mod_logged mod_tokens mod_weights mod_logs mod_marks mod_whence mod_by mod_leads mod_comes mod_costs mod_next r1.2)) (c_X6_findLeast l D b gm 0 mod_places mod_firings mod_fired mod_logged mod_tokens mod_weights mod_logs mod_marks mod_whence mod_by mod_leads mod_comes mod_costs mod_next mod_found 1 r1 hr1) ⟨(Nat.le_of_ble_eq_true rfl), (Nat.le_of_ble_eq_true rfl)⟩ rfl rfl 0 rfl rfl (ww _) (ww _) mW_ha C.2.2.2.2.2.2.1 (Nat.le_of_ble_eq_true rfl) rfl rfl (Nat.zero_le _) (Nat.zero_le _) dX6_rows_7 ?_
  cases h
  exact RET _ _ dX6_rows_10
theorem c_X6_rows (l : Launch) (D : va_G) (b : Nat → Nat) (gm : Nat → ClassId) (mod_thrown : Int) (mod_places : Int) (mod_firings : Int) (mod_fired : Int) (mod_logged : Int) (mod_tokens : Nat → Int) (mod_weights : Nat → Int) (mod_logs : Nat → Int) (mod_marks : Nat → Int) (mod_whence : Nat → Int) (mod_by : Nat → Int) (mod_leads : Nat → Int) (mod_comes : Nat → Int) (mod_costs : Nat → Int) (mod_next : Nat → Int) (mod_found : Nat → Int)  (res : Int × (Int) × (Nat → Int)) (h : F_X6_rows mod_places mod_firings mod_weights mod_thrown mod_found = some res) : Kt l yX6_rows cX6_rows 1 (some .int) ({ frames := 4, cells := 0, slots := 0, locals := 98 } : Room) D (mT gm) [.ref (b 0)] (mW b gm mod_thrown mod_places mod_firings mod_fired mod_logged mod_tokens mod_weights mod_logs mod_marks mod_whence mod_by mod_leads mod_comes mod_costs mod_next mod_found) (mW b gm res.2.1 mod_places mod_firings mod_fired mod_logged mod_tokens mod_weights mod_logs mod_marks mod_whence mod_by mod_leads mod_comes mod_costs mod_next res.2.2) (some (.int (vI res.1))) :=
  kt_i (ty := .int) rfl rfl (by decide +kernel) (Nat.le_of_ble_eq_true rfl) (fun C RET => k_X6_rows C res h RET)
set_option maxRecDepth 100000 in
set_option maxHeartbeats 4000000 in
theorem k_X6_row {b : Nat → Nat} {gm : Nat → ClassId} {mod_thrown : Int} {mod_places : Int} {mod_firings : Int} {mod_fired : Int} {mod_logged : Int} {mod_tokens : Nat → Int} {mod_weights : Nat → Int} {mod_logs : Nat → Int} {mod_marks : Nat → Int} {mod_whence : Nat → Int} {mod_by : Nat → Int} {mod_leads : Nat → Int} {mod_comes : Nat → Int} {mod_costs : Nat → Int} {mod_next : Nat → Int} {mod_found : Nat → Int} (C : JC p s m args meth c cX6_row 3 "MarkingHallModel" D (mT gm) A) (x1 : Int) (x2 : Int) (res : Int × (Int) × (Nat → Int)) (h : F_X6_row x1 x2 mod_places mod_firings mod_weights mod_thrown mod_found = some res) (RET : ∀ (pc : Nat) (lv : List (Nat × Value)), decode cX6_row pc = .ok (.ireturn, 1) → J p l e ({ frames := 4, cells := 0, slots := 0, locals := 98 } : Room) s m args below meth c D A 3 Q 0 0 (mW b gm res.2.1 mod_places mod_firings mod_fired mod_logged mod_tokens mod_weights mod_logs mod_marks mod_whence mod_by mod_leads mod_comes mod_costs mod_next res.2.2) pc lv [.int (vI res.1)]) : J p l e ({ frames := 4, cells := 0, slots := 0, locals := 98 } : Room) s m args below meth c D A 3 Q 0 0 (mW b gm mod_thrown mod_places mod_firings mod_fired mod_logged mod_tokens mod_weights mod_logs mod_marks mod_whence mod_by mod_leads mod_comes mod_costs mod_next mod_found) 0 [(0, .ref (b 0)), (1, .int (vI x1)), (2, .int (vI x2))] [] := by
  have J29 : ∀ (l1 : Int) (l2 : Int) (s1 : Int) (mod_thrown : Int) (mod_found : Nat → Int), F_X6_row_b29 mod_places mod_firings mod_weights l1 l2 s1 mod_thrown mod_found = some res → J p l e ({ frames := 4, cells := 0, slots := 0, locals := 98 } : Room) s m args below meth c D A 3 Q 0 0 (mW b gm mod_thrown mod_places mod_firings mod_fired mod_logged mod_tokens mod_weights mod_logs mod_marks mod_whence mod_by mod_leads mod_comes mod_costs mod_next mod_found) 29 [(0, .ref (b 0)), (1, .int (vI l1)), (2, .int (vI l2))] [.int (vI s1), .ref (b 0)] := by
    intro l1 l2 s1 mod_thrown mod_found h
    unfold F_X6_row_b29 at h
    obtain ⟨r1, hr1, h⟩ := Ob_of h
    refine q_X6_58 C (wc := (mW b gm mod_thrown mod_places mod_firings mod_fired mod_logged mod_tokens mod_weights mod_logs mod_marks mod_whence mod_by mod_leads mod_comes mod_costs mod_next mod_found)) (wc' := (mW b gm r1.2 mod_places mod_firings mod_fired mod_logged mod_tokens mod_weights mod_logs mod_marks mod_whence mod_by mod_leads mod_comes mod_costs mod_next mod_found)) (c_X6_goesWell l D b gm mod_thrown mod_places mod_firings mod_fired mod_logged mod_tokens mod_weights mod_logs mod_marks mod_whence mod_by mod_leads mod_comes mod_costs mod_next mod_found s1 r1 hr1) ⟨(Nat.le_of_ble_eq_true rfl), (Nat.le_of_ble_eq_true rfl)⟩ rfl rfl 0 rfl rfl (ww _) (ww _) mW_ha C.2.2.2.2.2.2.1 (Nat.le_of_ble_eq_true rfl) rfl rfl (Nat.zero_le _) (Nat.zero_le _) dX6_row_29 ?_
    refine j_if_eq C h 53 (by decide) dX6_row_32 (fun c4 h => ?_) (fun c4 h => ?_)
    · refine j_iconst C dX6_row_53 ?_
      cases h
      exact RET _ _ dX6_row_54
    · refine j_aload_n C 0 rfl rfl dX6_row_35 ?_
      refine g_X6_41 C (v := .ref (b 11)) 0 rfl rfl dX6_row_36 ?_
      refine j_iload_n C 1 rfl rfl dX6_row_39 ?_
      refine j_iald C 11 10 rfl rfl (Nat.le_of_ble_eq_true rfl) h dX6_row_40 (fun v2 h => ?_)
      refine j_iconst C dX6_row_41 ?_
      refine j_aload_n C 0 rfl rfl dX6_row_42 ?_
      refine g_X6_48 C (v := .int (vI mod_places)) 0 rfl rfl dX6_row_43 ?_
      refine j_iload_n C 2 rfl rfl dX6_row_46 ?_
      obtain ⟨r3, hr3, h⟩ := Ob_of h
      refine q_X6_116 C (wc := (mW b gm r1.2 mod_places mod_firings mod_fired mod_logged mod_tokens mod_weights mod_logs mod_marks mod_whence mod_by mod_leads mod_comes mod_costs mod_next mod_found)) (wc' := (mW b gm r1.2 mod_places mod_firings mod_fired mod_logged mod_tokens mod_weights mod_logs mod_marks mod_whence mod_by mod_leads mod_comes mod_costs mod_next mod_found)) (c_X6_digit l D _ _ v2 4 mod_places l2 r3 hr3) ⟨(Nat.le_of_ble_eq_true rfl), (Nat.le_of_ble_eq_true rfl)⟩ rfl rfl rfl (ww _) (ww _) rfl C.2.2.2.2.2.2.1 (Nat.le_of_ble_eq_true rfl) rfl rfl (Nat.zero_le _) (Nat.zero_le _) dX6_row_47 ?_
      refine j_goto C 54 (by decide) dX6_row_50 ?_
      cases h
      exact RET _ _ dX6_row_54
  have J28 : ∀ (l1 : Int) (l2 : Int) (mod_thrown : Int) (mod_found : Nat → Int), F_X6_row_b28 mod_places mod_firings mod_weights l1 l2 mod_thrown mod_found = some res → J p l e ({ frames := 4, cells := 0, slots := 0, locals := 98 } : Room) s m args below meth c D A 3 Q 0 0 (mW b gm mod_thrown mod_places mod_firings mod_fired mod_logged mod_tokens mod_weights mod_logs mod_marks mod_whence mod_by mod_leads mod_comes mod_costs mod_next mod_found) 28 [(0, .ref (b 0)), (1, .int (vI l1)), (2, .int (vI l2))] [.ref (b 0)] := by
    intro l1 l2 mod_thrown mod_found h
    unfold F_X6_row_b28 at h
    refine j_iconst C dX6_row_28 ?_
    exact J29 l1 l2 1 mod_thrown mod_found h
  unfold F_X6_row at h
  refine j_aload_n C 0 rfl rfl dX6_row_0 ?_
  refine j_iload_n C 1 rfl rfl dX6_row_1 ?_
  refine j_iconst C dX6_row_2 ?_
  refine j_aload_n C 0 rfl rfl dX6_row_3 ?_
  refine j_iconst C dX6_row_4 ?_
  obtain ⟨r5, hr5, h⟩ := Ob_of h
  refine q_X6_132 C (wc := (mW b gm mod_thrown mod_places mod_firings mod_fired mod_logged mod_tokens mod_weights mod_logs mod_marks mod_whence mod_by mod_leads mod_comes mod_costs mod_next mod_found)) (wc' := (mW b gm mod_thrown mod_places mod_firings mod_fired mod_logged mod_tokens mod_weights mod_logs mod_marks mod_whence mod_by mod_leads mod_comes mod_costs mod_next r5.2)) (c_X6_findLeast l D b gm mod_thrown mod_places mod_firings mod_fired mod_logged mod_tokens mod_weights mod_logs mod_marks mod_whence mod_by mod_leads mod_comes mod_costs mod_next mod_found 1 r5 hr5) ⟨(Nat.le_of_ble_eq_true rfl), (Nat.le_of_ble_eq_true rfl)⟩ rfl rfl 0 rfl rfl (ww _) (ww _) mW_ha C.2.2.2.2.2.2.1 (Nat.le_of_ble_eq_true rfl) rfl rfl (Nat.zero_le _) (Nat.zero_le _) dX6_row_5 ?_
  refine j_iconst C dX6_row_8 ?_
  refine j_isub C dX6_row_9 ?_
  obtain ⟨r6, hr6, h⟩ := Ob_of h
  refine q_X6_51 C (wc := (mW b gm mod_thrown mod_places mod_firings mod_fired mod_logged mod_tokens mod_weights mod_logs mod_marks mod_whence mod_by mod_leads mod_comes mod_costs mod_next r5.2)) (wc' := (mW b gm mod_thrown mod_places mod_firings mod_fired mod_logged mod_tokens mod_weights mod_logs mod_marks mod_whence mod_by mod_leads mod_comes mod_costs mod_next r5.2)) (c_X6_in l D _ _ x1 0 (r5.1 - 1) r6 hr6) ⟨(Nat.le_of_ble_eq_true rfl), (Nat.le_of_ble_eq_true rfl)⟩ rfl rfl rfl (ww _) (ww _) rfl C.2.2.2.2.2.2.1 (Nat.le_of_ble_eq_true rfl) rfl rfl (Nat.zero_le _) (Nat.zero_le _) dX6_row_10 ?_
  refine j_if_eq C h 28 (by decide) dX6_row_13 (fun c9 h => ?_) (fun c9 h => ?_)
  · exact J28 x1 x2 mod_thrown r5.2 h
  · refine j_aload_n C 0 rfl rfl dX6_row_16 ?_
    refine j_iload_n C 2 rfl rfl dX6_row_17 ?_
    obtain ⟨r7, hr7, h⟩ := Ob_of h
    refine q_X6_65 C (wc := (mW b gm mod_thrown mod_places mod_firings mod_fired mod_logged mod_tokens mod_weights mod_logs mod_marks mod_whence mod_by mod_leads mod_comes mod_costs mod_next r5.2)) (wc' := (mW b gm mod_thrown mod_places mod_firings mod_fired mod_logged mod_tokens mod_weights mod_logs mod_marks mod_whence mod_by mod_leads mod_comes mod_costs mod_next r5.2)) (c_X6_isPlace l D b gm mod_thrown mod_places mod_firings mod_fired mod_logged mod_tokens mod_weights mod_logs mod_marks mod_whence mod_by mod_leads mod_comes mod_costs mod_next r5.2 x2 r7 hr7) ⟨(Nat.le_of_ble_eq_true rfl), (Nat.le_of_ble_eq_true rfl)⟩ rfl rfl 0 rfl rfl (ww _) (ww _) rfl C.2.2.2.2.2.2.1 (Nat.le_of_ble_eq_true rfl) rfl rfl (Nat.zero_le _) (Nat.zero_le _) dX6_row_18 ?_
    refine j_if_eq C h 28 (by decide) dX6_row_21 (fun c8 h => ?_) (fun c8 h => ?_)
    · exact J28 x1 x2 mod_thrown r5.2 h
    · refine j_iconst C dX6_row_24 ?_
      refine j_goto C 29 (by decide) dX6_row_25 ?_
      exact J29 x1 x2 0 mod_thrown r5.2 h
theorem c_X6_row (l : Launch) (D : va_G) (b : Nat → Nat) (gm : Nat → ClassId) (mod_thrown : Int) (mod_places : Int) (mod_firings : Int) (mod_fired : Int) (mod_logged : Int) (mod_tokens : Nat → Int) (mod_weights : Nat → Int) (mod_logs : Nat → Int) (mod_marks : Nat → Int) (mod_whence : Nat → Int) (mod_by : Nat → Int) (mod_leads : Nat → Int) (mod_comes : Nat → Int) (mod_costs : Nat → Int) (mod_next : Nat → Int) (mod_found : Nat → Int) (x1 : Int) (x2 : Int) (res : Int × (Int) × (Nat → Int)) (h : F_X6_row x1 x2 mod_places mod_firings mod_weights mod_thrown mod_found = some res) : Kt l yX6_row cX6_row 3 (some .int) ({ frames := 4, cells := 0, slots := 0, locals := 98 } : Room) D (mT gm) [.ref (b 0), .int (vI x1), .int (vI x2)] (mW b gm mod_thrown mod_places mod_firings mod_fired mod_logged mod_tokens mod_weights mod_logs mod_marks mod_whence mod_by mod_leads mod_comes mod_costs mod_next mod_found) (mW b gm res.2.1 mod_places mod_firings mod_fired mod_logged mod_tokens mod_weights mod_logs mod_marks mod_whence mod_by mod_leads mod_comes mod_costs mod_next res.2.2) (some (.int (vI res.1))) :=
  kt_i (ty := .int) rfl rfl (by decide +kernel) (Nat.le_of_ble_eq_true rfl) (fun C RET => k_X6_row C x1 x2 res h RET)
set_option maxRecDepth 100000 in
set_option maxHeartbeats 4000000 in
theorem k_X6_sumBy {b : Nat → Nat} {gm : Nat → ClassId} {mod_thrown : Int} {mod_places : Int} {mod_firings : Int} {mod_fired : Int} {mod_logged : Int} {mod_tokens : Nat → Int} {mod_weights : Nat → Int} {mod_logs : Nat → Int} {mod_marks : Nat → Int} {mod_whence : Nat → Int} {mod_by : Nat → Int} {mod_leads : Nat → Int} {mod_comes : Nat → Int} {mod_costs : Nat → Int} {mod_next : Nat → Int} {mod_found : Nat → Int} (C : JC p s m args meth c cX6_sumBy 5 "MarkingHallModel" D (mT gm) A) (x1 : Int) (x2 : Int) (res : Int) (h : F_X6_sumBy x1 x2 mod_places mod_marks = some res) (RET : ∀ (pc : Nat) (lv : List (Nat × Value)), decode cX6_sumBy pc = .ok (.ireturn, 1) → J p l e ({ frames := 1, cells := 0, slots := 0, locals := 25 } : Room) s m args below meth c D A 5 Q 0 0 (mW b gm mod_thrown mod_places mod_firings mod_fired mod_logged mod_tokens mod_weights mod_logs mod_marks mod_whence mod_by mod_leads mod_comes mod_costs mod_next mod_found) pc lv [.int (vI res)]) : J p l e ({ frames := 1, cells := 0, slots := 0, locals := 25 } : Room) s m args below meth c D A 5 Q 0 0 (mW b gm mod_thrown mod_places mod_firings mod_fired mod_logged mod_tokens mod_weights mod_logs mod_marks mod_whence mod_by mod_leads mod_comes mod_costs mod_next mod_found) 0 [(0, .ref (b 0)), (1, .int (vI x1)), (2, .int (vI x2))] [] := by
  have J5 : ∀ (n : Nat) (l1 : Int) (l2 : Int) (l3 : Int) (l4 : Int), F_X6_sumBy_b5 mod_places mod_marks n l1 l2 l3 l4 = some res → J p l e ({ frames := 1, cells := 0, slots := 0, locals := 25 } : Room) s m args below meth c D A 5 Q 0 0 (mW b gm mod_thrown mod_places mod_firings mod_fired mod_logged mod_tokens mod_weights mod_logs mod_marks mod_whence mod_by mod_leads mod_comes mod_costs mod_next mod_found) 5 [(0, .ref (b 0)), (1, .int (vI l1)), (2, .int (vI l2)), (3, .int (vI l3)), (4, .int (vI l4))] [] := by
    intro n
    induction n with
    | zero => intro l1 l2 l3 l4 h; exact no_h h
    | succ n ih5 =>
      intro l1 l2 l3 l4 h
      replace h : F_X6_sumBy_b5_body mod_places mod_marks (F_X6_sumBy_b5 mod_places mod_marks n) l1 l2 l3 l4 = some res := h
      generalize F_X6_sumBy_b5 mod_places mod_marks n = ag5 at ih5 h
      unfold F_X6_sumBy_b5_body at h
      refine j_iload C 4 rfl dX6_sumBy_5 ?_
      refine j_aload_n C 0 rfl rfl dX6_sumBy_7 ?_
      refine g_X6_48 C (v := .int (vI mod_places)) 0 rfl rfl dX6_sumBy_8 ?_
      refine j_icmp_ge C h 47 (by decide) dX6_sumBy_11 (fun c6 h => ?_) (fun c6 h => ?_)
      · refine j_iload_n C 3 rfl rfl dX6_sumBy_47 ?_
        cases h
        exact RET _ _ dX6_sumBy_48
      · refine j_iload_n C 3 rfl rfl dX6_sumBy_14 ?_
        refine j_iload_n C 1 rfl rfl dX6_sumBy_15 ?_
        refine j_iconst C dX6_sumBy_16 ?_
        refine j_aload_n C 0 rfl rfl dX6_sumBy_17 ?_
        refine g_X6_48 C (v := .int (vI mod_places)) 0 rfl rfl dX6_sumBy_18 ?_
        refine j_iload C 4 rfl dX6_sumBy_21 ?_
        obtain ⟨r1, hr1, h⟩ := Ob_of h
        refine q_X6_116 C (wc := (mW b gm mod_thrown mod_places mod_firings mod_fired mod_logged mod_tokens mod_weights mod_logs mod_marks mod_whence mod_by mod_leads mod_comes mod_costs mod_next mod_found)) (wc' := (mW b gm mod_thrown mod_places mod_firings mod_fired mod_logged mod_tokens mod_weights mod_logs mod_marks mod_whence mod_by mod_leads mod_comes mod_costs mod_next mod_found)) (c_X6_digit l D _ _ l1 4 mod_places l4 r1 hr1) ⟨(Nat.le_of_ble_eq_true rfl), (Nat.le_of_ble_eq_true rfl)⟩ rfl rfl rfl (ww _) (ww _) rfl C.2.2.2.2.2.2.1 (Nat.le_of_ble_eq_true rfl) rfl rfl (Nat.zero_le _) (Nat.zero_le _) dX6_sumBy_23 ?_
        refine j_aload_n C 0 rfl rfl dX6_sumBy_26 ?_
        refine g_X6_19 C (v := .ref (b 4)) 0 rfl rfl dX6_sumBy_27 ?_
        refine j_bipush C (by decide) dX6_sumBy_30 ?_
        refine j_iload_n C 2 rfl rfl dX6_sumBy_32 ?_
        refine j_imul C dX6_sumBy_33 ?_
        refine j_iload C 4 rfl dX6_sumBy_34 ?_
        refine j_iadd C dX6_sumBy_36 ?_
        refine j_nm h (fun v2 h => ?_)
        refine j_iald C 4 3 rfl rfl (Nat.le_of_ble_eq_true rfl) h dX6_sumBy_37 (fun v3 h => ?_)
        refine j_imul C dX6_sumBy_38 ?_
        refine j_iadd C dX6_sumBy_39 ?_
        refine j_nm h (fun v4 h => ?_)
        refine j_istore_n C [(3, .int (vI v4)), (0, .ref (b 0)), (1, .int (vI l1)), (2, .int (vI l2)), (4, .int (vI l4))] rfl rfl (by decide) dX6_sumBy_40 ?_
        refine j_iinc C 4 rfl (fun v => [(4, .int (vI v)), (3, .int (vI v4)), (0, .ref (b 0)), (1, .int (vI l1)), (2, .int (vI l2))]) (fun _ => rfl) (by decide) h dX6_sumBy_41 (fun v5 h => ?_)
        refine j_goto C 5 (by decide) dX6_sumBy_44 ?_
        refine j_lv [2, 3, 4, 1, 0] rfl ?_
        exact ih5 l1 l2 v4 v5 h
  unfold F_X6_sumBy at h
  refine j_iconst C dX6_sumBy_0 ?_
  refine j_istore_n C [(3, .int (vI 0)), (0, .ref (b 0)), (1, .int (vI x1)), (2, .int (vI x2))] rfl rfl (by decide) dX6_sumBy_1 ?_
  refine j_iconst C dX6_sumBy_2 ?_
  refine j_istore C [(4, .int (vI 0)), (3, .int (vI 0)), (0, .ref (b 0)), (1, .int (vI x1)), (2, .int (vI x2))] rfl (by decide) dX6_sumBy_3 ?_
  refine j_lv [2, 3, 4, 1, 0] rfl ?_
  exact J5 NN x1 x2 0 0 h
theorem c_X6_sumBy (l : Launch) (D : va_G) (b : Nat → Nat) (gm : Nat → ClassId) (mod_thrown : Int) (mod_places : Int) (mod_firings : Int) (mod_fired : Int) (mod_logged : Int) (mod_tokens : Nat → Int) (mod_weights : Nat → Int) (mod_logs : Nat → Int) (mod_marks : Nat → Int) (mod_whence : Nat → Int) (mod_by : Nat → Int) (mod_leads : Nat → Int) (mod_comes : Nat → Int) (mod_costs : Nat → Int) (mod_next : Nat → Int) (mod_found : Nat → Int) (x1 : Int) (x2 : Int) (res : Int) (h : F_X6_sumBy x1 x2 mod_places mod_marks = some res) : Kt l yX6_sumBy cX6_sumBy 5 (some .int) ({ frames := 1, cells := 0, slots := 0, locals := 25 } : Room) D (mT gm) [.ref (b 0), .int (vI x1), .int (vI x2)] (mW b gm mod_thrown mod_places mod_firings mod_fired mod_logged mod_tokens mod_weights mod_logs mod_marks mod_whence mod_by mod_leads mod_comes mod_costs mod_next mod_found) (mW b gm mod_thrown mod_places mod_firings mod_fired mod_logged mod_tokens mod_weights mod_logs mod_marks mod_whence mod_by mod_leads mod_comes mod_costs mod_next mod_found) (some (.int (vI res))) :=
  kt_i (ty := .int) rfl rfl (by decide +kernel) (Nat.le_of_ble_eq_true rfl) (fun C RET => k_X6_sumBy C x1 x2 res h RET)
set_option maxRecDepth 100000 in
set_option maxHeartbeats 4000000 in
theorem k_X6_boundOf {b : Nat → Nat} {gm : Nat → ClassId} {mod_thrown : Int} {mod_places : Int} {mod_firings : Int} {mod_fired : Int} {mod_logged : Int} {mod_tokens : Nat → Int} {mod_weights : Nat → Int} {mod_logs : Nat → Int} {mod_marks : Nat → Int} {mod_whence : Nat → Int} {mod_by : Nat → Int} {mod_leads : Nat → Int} {mod_comes : Nat → Int} {mod_costs : Nat → Int} {mod_next : Nat → Int} {mod_found : Nat → Int} (C : JC p s m args meth c cX6_boundOf 7 "MarkingHallModel" D (mT gm) A) (x1 : Int) (x2 : Int) (res : Int × (Nat → Int)) (h : F_X6_boundOf x1 x2 mod_places mod_tokens mod_found mod_marks = some res) (RET : ∀ (pc : Nat) (lv : List (Nat × Value)), decode cX6_boundOf pc = .ok (.ireturn, 1) → J p l e ({ frames := 2, cells := 0, slots := 0, locals := 49 } : Room) s m args below meth c D A 7 Q 0 0 (mW b gm mod_thrown mod_places mod_firings mod_fired mod_logged mod_tokens mod_weights mod_logs res.2 mod_whence mod_by mod_leads mod_comes mod_costs mod_next mod_found) pc lv [.int (vI res.1)]) : J p l e ({ frames := 2, cells := 0, slots := 0, locals := 49 } : Room) s m args below meth c D A 7 Q 0 0 (mW b gm mod_thrown mod_places mod_firings mod_fired mod_logged mod_tokens mod_weights mod_logs mod_marks mod_whence mod_by mod_leads mod_comes mod_costs mod_next mod_found) 0 [(0, .ref (b 0)), (1, .int (vI x1)), (2, .int (vI x2))] [] := by
  have J9 : ∀ (n : Nat) (l1 : Int) (l2 : Int) (l3 : Int) (l4 : Int) (mod_marks : Nat → Int), F_X6_boundOf_b9 mod_places mod_tokens mod_found n l1 l2 l3 l4 mod_marks = some res → J p l e ({ frames := 2, cells := 0, slots := 0, locals := 49 } : Room) s m args below meth c D A 7 Q 0 0 (mW b gm mod_thrown mod_places mod_firings mod_fired mod_logged mod_tokens mod_weights mod_logs mod_marks mod_whence mod_by mod_leads mod_comes mod_costs mod_next mod_found) 9 [(0, .ref (b 0)), (1, .int (vI l1)), (2, .int (vI l2)), (3, .int (vI l3)), (4, .int (vI l4))] [] := by
    intro n
    induction n with
    | zero => intro l1 l2 l3 l4 mod_marks h; exact no_h h
    | succ n ih9 =>
      intro l1 l2 l3 l4 mod_marks h
      replace h : F_X6_boundOf_b9_body mod_places mod_tokens mod_found (F_X6_boundOf_b9 mod_places mod_tokens mod_found n) l1 l2 l3 l4 mod_marks = some res := h
      generalize F_X6_boundOf_b9 mod_places mod_tokens mod_found n = ag9 at ih9 h
      have J81 : ∀ (l1 : Int) (l2 : Int) (l4 : Int) (s0 : Int) (mod_marks : Nat → Int), F_X6_boundOf_b81 mod_places mod_tokens mod_found ag9 l1 l2 l4 s0 mod_marks = some res → J p l e ({ frames := 2, cells := 0, slots := 0, locals := 49 } : Room) s m args below meth c D A 7 Q 0 0 (mW b gm mod_thrown mod_places mod_firings mod_fired mod_logged mod_tokens mod_weights mod_logs mod_marks mod_whence mod_by mod_leads mod_comes mod_costs mod_next mod_found) 81 [(0, .ref (b 0)), (1, .int (vI l1)), (2, .int (vI l2)), (4, .int (vI l4))] [.int (vI s0)] := by
        intro l1 l2 l4 s0 mod_marks h
        unfold F_X6_boundOf_b81 at h
        refine j_istore_n C [(3, .int (vI s0)), (0, .ref (b 0)), (1, .int (vI l1)), (2, .int (vI l2)), (4, .int (vI l4))] rfl rfl (by decide) dX6_boundOf_81 ?_
        refine j_iinc C 4 rfl (fun v => [(4, .int (vI v)), (3, .int (vI s0)), (0, .ref (b 0)), (1, .int (vI l1)), (2, .int (vI l2))]) (fun _ => rfl) (by decide) h dX6_boundOf_82 (fun v1 h => ?_)
        refine j_goto C 9 (by decide) dX6_boundOf_85 ?_
        refine j_lv [2, 3, 4, 1, 0] rfl ?_
        exact ih9 l1 l2 s0 v1 mod_marks h
      have J80 : ∀ (l1 : Int) (l2 : Int) (l3 : Int) (l4 : Int) (mod_marks : Nat → Int), F_X6_boundOf_b80 mod_places mod_tokens mod_found ag9 l1 l2 l3 l4 mod_marks = some res → J p l e ({ frames := 2, cells := 0, slots := 0, locals := 49 } : Room) s m args below meth c D A 7 Q 0 0 (mW b gm mod_thrown mod_places mod_firings mod_fired mod_logged mod_tokens mod_weights mod_logs mod_marks mod_whence mod_by mod_leads mod_comes mod_costs mod_next mod_found) 80 [(0, .ref (b 0)), (1, .int (vI l1)), (2, .int (vI l2)), (3, .int (vI l3)), (4, .int (vI l4))] [] := by
        intro l1 l2 l3 l4 mod_marks h
        unfold F_X6_boundOf_b80 at h
        refine j_iload_n C 3 rfl rfl dX6_boundOf_80 ?_
        refine j_lv [0, 1, 2, 4] rfl ?_
        exact J81 l1 l2 l4 l3 mod_marks h
      have J75 : ∀ (l1 : Int) (l2 : Int) (l4 : Int) (l6 : Int) (mod_marks : Nat → Int), F_X6_boundOf_b75 mod_places mod_tokens mod_found ag9 l1 l2 l4 l6 mod_marks = some res → J p l e ({ frames := 2, cells := 0, slots := 0, locals := 49 } : Room) s m args below meth c D A 7 Q 0 0 (mW b gm mod_thrown mod_places mod_firings mod_fired mod_logged mod_tokens mod_weights mod_logs mod_marks mod_whence mod_by mod_leads mod_comes mod_costs mod_next mod_found) 75 [(0, .ref (b 0)), (1, .int (vI l1)), (2, .int (vI l2)), (4, .int (vI l4)), (6, .int (vI l6))] [] := by
        intro l1 l2 l4 l6 mod_marks h
        unfold F_X6_boundOf_b75 at h
        refine j_iload C 4 rfl dX6_boundOf_75 ?_
        refine j_goto C 81 (by decide) dX6_boundOf_77 ?_
        refine j_lv [0, 1, 2, 3] rfl ?_
        exact J81 l1 l2 l4 l6 mod_marks h
      have J57 : ∀ (l1 : Int) (l2 : Int) (l3 : Int) (l4 : Int) (l5 : Int) (s0 : Int) (mod_marks : Nat → Int), F_X6_boundOf_b57 mod_places mod_tokens mod_found ag9 l1 l2 l3 l4 l5 s0 mod_marks = some res → J p l e ({ frames := 2, cells := 0, slots := 0, locals := 49 } : Room) s m args below meth c D A 7 Q 0 0 (mW b gm mod_thrown mod_places mod_firings mod_fired mod_logged mod_tokens mod_weights mod_logs mod_marks mod_whence mod_by mod_leads mod_comes mod_costs mod_next mod_found) 57 [(0, .ref (b 0)), (1, .int (vI l1)), (2, .int (vI l2)), (3, .int (vI l3)), (4, .int (vI l4)), (5, .int (vI l5))] [.int (vI s0)] := by
        intro l1 l2 l3 l4 l5 s0 mod_marks h
        unfold F_X6_boundOf_b57 at h
        refine j_istore C [(6, .int (vI s0)), (0, .ref (b 0)), (1, .int (vI l1)), (2, .int (vI l2)), (3, .int (vI l3)), (4, .int (vI l4)), (5, .int (vI l5))] rfl (by decide) dX6_boundOf_57 ?_
        refine j_iload C 6 rfl dX6_boundOf_59 ?_
        refine j_if_le C h 80 (by decide) dX6_boundOf_61 (fun c4 h => ?_) (fun c4 h => ?_)
        · refine j_lv [1, 2, 3, 4, 5] rfl ?_
          exact J80 l1 l2 l3 l4 mod_marks h
        · refine j_iload_n C 4 rfl rfl dX6_boundOf_64 ?_
          refine j_iconst C dX6_boundOf_65 ?_
          refine j_icmp_eq C h 75 (by decide) dX6_boundOf_66 (fun c3 h => ?_) (fun c3 h => ?_)
          · refine j_lv [1, 2, 3, 5, 0] rfl ?_
            exact J75 l1 l2 l4 s0 mod_marks h
          · refine j_iload C 0 rfl dX6_boundOf_69 ?_
            refine j_iload_n C 4 rfl rfl dX6_boundOf_71 ?_
            refine j_icmp_ge C h 80 (by decide) dX6_boundOf_72 (fun c2 h => ?_) (fun c2 h => ?_)
            · refine j_lv [1, 2, 3, 4, 5] rfl ?_
              exact J80 l1 l2 l3 l4 mod_marks h
            · refine j_lv [1, 2, 3, 5, 0] rfl ?_
              exact J75 l1 l2 l4 s0 mod_marks h
      unfold F_X6_boundOf_b9_body at h
      refine j_iload C 4 rfl dX6_boundOf_9 ?_
      refine j_iload_n C 2 rfl rfl dX6_boundOf_11 ?_
      refine j_icmp_ge C h 88 (by decide) dX6_boundOf_12 (fun c10 h => ?_) (fun c10 h => ?_)
      · refine j_iload_n C 3 rfl rfl dX6_boundOf_88 ?_
        cases h
        exact RET _ _ dX6_boundOf_89
      · refine j_aload_n C 0 rfl rfl dX6_boundOf_15 ?_
        refine g_X6_41 C (v := .ref (b 11)) 0 rfl rfl dX6_boundOf_16 ?_
        refine j_iload C 4 rfl dX6_boundOf_19 ?_
        refine j_iald C 11 10 rfl rfl (Nat.le_of_ble_eq_true rfl) h dX6_boundOf_21 (fun v5 h => ?_)
        refine j_iconst C dX6_boundOf_22 ?_
        refine j_aload_n C 0 rfl rfl dX6_boundOf_23 ?_
        refine g_X6_48 C (v := .int (vI mod_places)) 0 rfl rfl dX6_boundOf_24 ?_
        refine j_iload_n C 1 rfl rfl dX6_boundOf_27 ?_
        obtain ⟨r6, hr6, h⟩ := Ob_of h
        refine q_X6_116 C (wc := (mW b gm mod_thrown mod_places mod_firings mod_fired mod_logged mod_tokens mod_weights mod_logs mod_marks mod_whence mod_by mod_leads mod_comes mod_costs mod_next mod_found)) (wc' := (mW b gm mod_thrown mod_places mod_firings mod_fired mod_logged mod_tokens mod_weights mod_logs mod_marks mod_whence mod_by mod_leads mod_comes mod_costs mod_next mod_found)) (c_X6_digit l D _ _ v5 4 mod_places l1 r6 hr6) ⟨(Nat.le_of_ble_eq_true rfl), (Nat.le_of_ble_eq_true rfl)⟩ rfl rfl rfl (ww _) (ww _) rfl C.2.2.2.2.2.2.1 (Nat.le_of_ble_eq_true rfl) rfl rfl (Nat.zero_le _) (Nat.zero_le _) dX6_boundOf_28 ?_
        refine j_istore C [(5, .int (vI r6)), (0, .ref (b 0)), (1, .int (vI l1)), (2, .int (vI l2)), (3, .int (vI l3)), (4, .int (vI l4))] rfl (by decide) dX6_boundOf_31 ?_
        refine j_iload C 0 rfl dX6_boundOf_33 ?_
        refine j_if_ne C h 42 (by decide) dX6_boundOf_35 (fun c9 h => ?_) (fun c9 h => ?_)
        · refine j_aload_n C 1 rfl rfl dX6_boundOf_42 ?_
          refine j_aload_n C 1 rfl rfl dX6_boundOf_43 ?_
          refine g_X6_41 C (v := .ref (b 11)) 0 rfl rfl dX6_boundOf_44 ?_
          refine j_iload C 5 rfl dX6_boundOf_47 ?_
          refine j_iald C 11 10 rfl rfl (Nat.le_of_ble_eq_true rfl) h dX6_boundOf_49 (fun v7 h => ?_)
          refine j_iconst C dX6_boundOf_50 ?_
          obtain ⟨r8, hr8, h⟩ := Ob_of h
          refine q_X6_136 C (wc := (mW b gm mod_thrown mod_places mod_firings mod_fired mod_logged mod_tokens mod_weights mod_logs mod_marks mod_whence mod_by mod_leads mod_comes mod_costs mod_next mod_found)) (wc' := (mW b gm mod_thrown mod_places mod_firings mod_fired mod_logged mod_tokens mod_weights mod_logs mod_marks mod_whence mod_by mod_leads mod_comes mod_costs mod_next mod_found)) (c_X6_sumBy l D b gm mod_thrown mod_places mod_firings mod_fired mod_logged mod_tokens mod_weights mod_logs mod_marks mod_whence mod_by mod_leads mod_comes mod_costs mod_next mod_found v7 0 r8 hr8) ⟨(Nat.le_of_ble_eq_true rfl), (Nat.le_of_ble_eq_true rfl)⟩ rfl rfl 0 rfl rfl (ww _) (ww _) rfl C.2.2.2.2.2.2.1 (Nat.le_of_ble_eq_true rfl) rfl rfl (Nat.zero_le _) (Nat.zero_le _) dX6_boundOf_51 ?_
          refine j_iload C 0 rfl dX6_boundOf_54 ?_
          refine j_idiv C h dX6_boundOf_56 (fun h => ?_)
          refine j_lv [1, 2, 3, 4, 5, 0] rfl ?_
          exact J57 l1 l2 l3 l4 r6 (iDiv r8 r6) mod_marks h
        · refine j_iconst C dX6_boundOf_38 ?_
          refine j_goto C 57 (by decide) dX6_boundOf_39 ?_
          refine j_lv [1, 2, 3, 4, 5, 0] rfl ?_
          exact J57 l1 l2 l3 l4 r6 (-1) mod_marks h
  unfold F_X6_boundOf at h
  refine j_aload_n C 0 rfl rfl dX6_boundOf_0 ?_
  obtain ⟨r11, hr11, h⟩ := Ob_of h
  refine q_X6_75 C (wc := (mW b gm mod_thrown mod_places mod_firings mod_fired mod_logged mod_tokens mod_weights mod_logs mod_marks mod_whence mod_by mod_leads mod_comes mod_costs mod_next mod_found)) (wc' := (mW b gm mod_thrown mod_places mod_firings mod_fired mod_logged mod_tokens mod_weights mod_logs r11 mod_whence mod_by mod_leads mod_comes mod_costs mod_next mod_found)) (c_X6_layNow l D b gm mod_thrown mod_places mod_firings mod_fired mod_logged mod_tokens mod_weights mod_logs mod_marks mod_whence mod_by mod_leads mod_comes mod_costs mod_next mod_found r11 hr11) ⟨(Nat.le_of_ble_eq_true rfl), (Nat.le_of_ble_eq_true rfl)⟩ rfl rfl 0 rfl rfl (ww _) (ww _) mW_ha C.2.2.2.2.2.2.1 (Nat.le_of_ble_eq_true rfl) rfl rfl (Nat.zero_le _) (Nat.zero_le _) dX6_boundOf_1 ?_
  refine j_iconst C dX6_boundOf_4 ?_
  refine j_istore_n C [(3, .int (vI (-1))), (0, .ref (b 0)), (1, .int (vI x1)), (2, .int (vI x2))] rfl rfl (by decide) dX6_boundOf_5 ?_
  refine j_iconst C dX6_boundOf_6 ?_
  refine j_istore C [(4, .int (vI 0)), (3, .int (vI (-1))), (0, .ref (b 0)), (1, .int (vI x1)), (2, .int (vI x2))] rfl (by decide) dX6_boundOf_7 ?_
  refine j_lv [2, 3, 4, 1, 0] rfl ?_
  exact J9 NN x1 x2 (-1) 0 r11 h
theorem c_X6_boundOf (l : Launch) (D : va_G) (b : Nat → Nat) (gm : Nat → ClassId) (mod_thrown : Int) (mod_places : Int) (mod_firings : Int) (mod_fired : Int) (mod_logged : Int) (mod_tokens : Nat → Int) (mod_weights : Nat → Int) (mod_logs : Nat → Int) (mod_marks : Nat → Int) (mod_whence : Nat → Int) (mod_by : Nat → Int) (mod_leads : Nat → Int) (mod_comes : Nat → Int) (mod_costs : Nat → Int) (mod_next : Nat → Int) (mod_found : Nat → Int) (x1 : Int) (x2 : Int) (res : Int × (Nat → Int)) (h : F_X6_boundOf x1 x2 mod_places mod_tokens mod_found mod_marks = some res) : Kt l yX6_boundOf cX6_boundOf 7 (some .int) ({ frames := 2, cells := 0, slots := 0, locals := 49 } : Room) D (mT gm) [.ref (b 0), .int (vI x1), .int (vI x2)] (mW b gm mod_thrown mod_places mod_firings mod_fired mod_logged mod_tokens mod_weights mod_logs mod_marks mod_whence mod_by mod_leads mod_comes mod_costs mod_next mod_found) (mW b gm mod_thrown mod_places mod_firings mod_fired mod_logged mod_tokens mod_weights mod_logs res.2 mod_whence mod_by mod_leads mod_comes mod_costs mod_next mod_found) (some (.int (vI res.1))) :=
  kt_i (ty := .int) rfl rfl (by decide +kernel) (Nat.le_of_ble_eq_true rfl) (fun C RET => k_X6_boundOf C x1 x2 res h RET)
end WK
