section WK
variable {p : Program} {l : Launch} {e : Env} {s : State} {m : MethodId} {args : Array Value} {below : List Frame} {meth : Method} {c : Code} {D : va_G} {A : Nat → Prop} {Q : State → Prop}
set_option maxRecDepth 100000 in
set_option maxHeartbeats 8000000 in
theorem k_L_areAlike {a : Nat → Nat} {g : Nat → ClassId} {b : Nat → Nat} {h9 : Nat → ClassId} (C : JC p s m args meth c cL_areAlike 5 "MarkingHallLaw" D (xT g ++ xT h9) A) (T : TT A s) (hl : l.stackTraces = false) (cl : Nat) (hcl : cl + 100 ≤ 900000) (x2 : Int) (oA : AS) (pA : AS) (kc : Nat) (wo : va_W) (wp : va_W) (Ho : Xw a g (cl + kc) oA wo) (Hp : Xw b h9 (cl + kc) pA wp) (res : Int × AS × AS × Nat) (h : F_L_areAlike x2 oA pA kc = some res) (RET : ∀ (wo : va_W) (wp : va_W) (pc : Nat) (lv : List (Nat × Value)) (Ho : Xw a g (cl + res.2.2.2) res.2.1 wo) (Hp : Xw b h9 (cl + res.2.2.2) res.2.2.1 wp), res.2.2.2 ≤ 100 → (res.1 = 0 ∨ res.1 = 1) → decode cL_areAlike pc = .ok (.ireturn, 1) → J p l e ({ frames := 9, cells := 100, slots := 600, locals := 154 } : Room) s m args below meth c D A 5 Q 100 (6 * 100) (wo ++ wp) pc lv [.int (vI res.1)]) : J p l e ({ frames := 9, cells := 100, slots := 600, locals := 154 } : Room) s m args below meth c D A 5 Q kc (6 * kc) (wo ++ wp) 0 [(0, .ref (a 0)), (1, .ref (b 0)), (2, .int (vI x2))] [] := by
  have J179 : ∀ (oA : AS) (pA : AS) (kc : Nat) (wo : va_W) (wp : va_W) (Ho : Xw a g (cl + kc) oA wo) (Hp : Xw b h9 (cl + kc) pA wp), F_L_areAlike_b179 oA pA kc = some res → J p l e ({ frames := 9, cells := 100, slots := 600, locals := 154 } : Room) s m args below meth c D A 5 Q kc (6 * kc) (wo ++ wp) 179 [] [] := by
    intro oA pA kc wo wp Ho Hp h
    unfold F_L_areAlike_b179 at h
    refine j_iconst C dL_areAlike_179 ?_
    obtain ⟨hkc, h⟩ := G_of h
    obtain ⟨hz, h⟩ := G_of h
    cases h
    refine j_wide hkc (Nat.mul_le_mul_left 6 hkc) ?_
    exact RET wo wp _ _ Ho Hp hkc hz dL_areAlike_180
  have J139 : ∀ (l2 : Int) (l3 : Int) (oA : AS) (pA : AS) (kc : Nat) (wo : va_W) (wp : va_W) (Ho : Xw a g (cl + kc) oA wo) (Hp : Xw b h9 (cl + kc) pA wp), F_L_areAlike_b139 l2 l3 oA pA kc = some res → J p l e ({ frames := 9, cells := 100, slots := 600, locals := 154 } : Room) s m args below meth c D A 5 Q kc (6 * kc) (wo ++ wp) 139 [(0, .ref (a 0)), (1, .ref (b 0)), (2, .int (vI l2)), (3, .int (vI l3))] [] := by
    intro l2 l3 oA pA kc wo wp Ho Hp h
    unfold F_L_areAlike_b139 at h
    refine j_iload_n C 3 rfl rfl dL_areAlike_139 ?_
    refine j_if_eq C h 179 (by decide) dL_areAlike_140 (fun c17 h => ?_) (fun c17 h => ?_)
    · refine j_lv [] rfl ?_
      exact J179 oA pA kc wo wp Ho Hp h
    · refine j_aload_n C 0 rfl rfl dL_areAlike_143 ?_
      refine j_iload_n C 2 rfl rfl dL_areAlike_144 ?_
      refine j_iconst C dL_areAlike_145 ?_
      obtain ⟨hkr1, h⟩ := G_of h
      obtain ⟨r1, hr1, h⟩ := Ob_of h
      refine q_L_77 C (u := []) (v := []) (wc := (wo ++ wp)) (wc' := (wo ++ wp)) (c_L_low l D _ _ l2 4 r1 hr1) ⟨(Nat.le_of_ble_eq_true rfl), (Nat.le_of_ble_eq_true rfl)⟩ rfl rfl rfl (ww _) (ww _) rfl C.2.2.2.2.2.2.1 (Nat.le_of_ble_eq_true rfl) rfl rfl hkr1 (Nat.mul_le_mul_left 6 hkr1) dL_areAlike_146 ?_
      obtain ⟨hkr2, h⟩ := G_of h
      obtain ⟨r2, hr2, h⟩ := Ob_of h
      refine J.eq (st' := [.int (vI (sx r1)), .ref (a 0)]) (by first | (simp only [sx_v]; done) | (simp only [sx_v]; rfl)) ?_
      refine dj_graph C (u := []) (wc := wo) (v := wp) Ho (by omega) (sx_in _) hr2 rfl (K_left C.2.2.2.2.2.2.1) (Nat.le_of_ble_eq_true rfl) (Nat.le_of_ble_eq_true rfl) (Nat.le_of_ble_eq_true rfl) hkr2 (by show 6 * kc + 6 * 1 ≤ 6 * 100; omega) dL_areAlike_149 (fun w3 hpw3 _ => ?_)
      have hb4 := Xw_le (cl' := cl + (kc + 1)) (by omega) Hp
      refine j_cs (c1 := (kc + 1)) (s1 := 6 * (kc + 1)) (w1 := (w3 ++ wp)) rfl (by omega) rfl ?_
      have hqw3 : Xw a g (cl + (kc + 1)) r2.2 w3 := hpw3
      refine j_aload_n C 1 rfl rfl dL_areAlike_152 ?_
      refine j_iload_n C 2 rfl rfl dL_areAlike_153 ?_
      refine j_iconst C dL_areAlike_154 ?_
      obtain ⟨hkr5, h⟩ := G_of h
      obtain ⟨r5, hr5, h⟩ := Ob_of h
      refine q_L_77 C (u := []) (v := []) (wc := (w3 ++ wp)) (wc' := (w3 ++ wp)) (c_L_low l D _ _ l2 4 r5 hr5) ⟨(Nat.le_of_ble_eq_true rfl), (Nat.le_of_ble_eq_true rfl)⟩ rfl rfl rfl (ww _) (ww _) rfl C.2.2.2.2.2.2.1 (Nat.le_of_ble_eq_true rfl) rfl rfl hkr5 (Nat.mul_le_mul_left 6 hkr5) dL_areAlike_155 ?_
      obtain ⟨hkr6, h⟩ := G_of h
      obtain ⟨r6, hr6, h⟩ := Ob_of h
      refine J.eq (st' := [.int (vI (sx r5)), .ref (b 0), .int (vI r2.1)]) (by first | (simp only [sx_v]; done) | (simp only [sx_v]; rfl)) ?_
      refine dj_graph C (u := w3) (wc := wp) (v := []) hb4 (by omega) (sx_in _) hr6 (List.append_nil _) (K_right C.2.2.2.2.2.2.1) (Nat.le_of_ble_eq_true rfl) (Nat.le_of_ble_eq_true rfl) (Nat.le_of_ble_eq_true rfl) hkr6 (by show 6 * (kc + 1) + 6 * 1 ≤ 6 * 100; omega) dL_areAlike_158 (fun w7 hpw7 _ => ?_)
      have hb8 := Xw_le (cl' := cl + ((kc + 1) + 1)) (by omega) hqw3
      refine j_cs (c1 := ((kc + 1) + 1)) (s1 := 6 * ((kc + 1) + 1)) (w1 := (w3 ++ w7)) rfl (by omega) (List.append_nil _) ?_
      have hqw7 : Xw b h9 (cl + ((kc + 1) + 1)) r6.2 w7 := hpw7
      refine j_icmp_ne C h 179 (by decide) dL_areAlike_161 (fun c16 h => ?_) (fun c16 h => ?_)
      · refine j_lv [] rfl ?_
        exact J179 r2.2 r6.2 ((kc + 1) + 1) w3 w7 hb8 hqw7 h
      · refine j_aload_n C 0 rfl rfl dL_areAlike_164 ?_
        obtain ⟨hkr9, h⟩ := G_of h
        obtain ⟨r9, hr9, h⟩ := Ob_of h
        refine dj_cost C (u := []) (wc := w3) (v := w7) hb8 (by omega)  hr9 rfl (K_left C.2.2.2.2.2.2.1) (Nat.le_of_ble_eq_true rfl) (Nat.le_of_ble_eq_true rfl) (Nat.le_of_ble_eq_true rfl) hkr9 (by show 6 * ((kc + 1) + 1) + 6 * 1 ≤ 6 * 100; omega) dL_areAlike_165 (fun w10 hpw10 _ => ?_)
        have hb11 := Xw_le (cl' := cl + (((kc + 1) + 1) + 1)) (by omega) hqw7
        refine j_cs (c1 := (((kc + 1) + 1) + 1)) (s1 := 6 * (((kc + 1) + 1) + 1)) (w1 := (w10 ++ w7)) rfl (by omega) rfl ?_
        have hqw10 : Xw a g (cl + (((kc + 1) + 1) + 1)) r9.2 w10 := hpw10
        refine j_aload_n C 1 rfl rfl dL_areAlike_168 ?_
        obtain ⟨hkr12, h⟩ := G_of h
        obtain ⟨r12, hr12, h⟩ := Ob_of h
        refine dj_cost C (u := w10) (wc := w7) (v := []) hb11 (by omega)  hr12 (List.append_nil _) (K_right C.2.2.2.2.2.2.1) (Nat.le_of_ble_eq_true rfl) (Nat.le_of_ble_eq_true rfl) (Nat.le_of_ble_eq_true rfl) hkr12 (by show 6 * (((kc + 1) + 1) + 1) + 6 * 1 ≤ 6 * 100; omega) dL_areAlike_169 (fun w13 hpw13 _ => ?_)
        have hb14 := Xw_le (cl' := cl + ((((kc + 1) + 1) + 1) + 1)) (by omega) hqw10
        refine j_cs (c1 := ((((kc + 1) + 1) + 1) + 1)) (s1 := 6 * ((((kc + 1) + 1) + 1) + 1)) (w1 := (w10 ++ w13)) rfl (by omega) (List.append_nil _) ?_
        have hqw13 : Xw b h9 (cl + ((((kc + 1) + 1) + 1) + 1)) r12.2 w13 := hpw13
        refine j_icmp_ne C h 179 (by decide) dL_areAlike_172 (fun c15 h => ?_) (fun c15 h => ?_)
        · refine j_lv [] rfl ?_
          exact J179 r9.2 r12.2 ((((kc + 1) + 1) + 1) + 1) w10 w13 hb14 hqw13 h
        · refine j_iconst C dL_areAlike_175 ?_
          refine j_goto C 180 (by decide) dL_areAlike_176 ?_
          obtain ⟨hkc, h⟩ := G_of h
          obtain ⟨hz, h⟩ := G_of h
          cases h
          refine j_wide hkc (Nat.mul_le_mul_left 6 hkc) ?_
          exact RET w10 w13 _ _ hb14 hqw13 hkc hz dL_areAlike_180
  have J42 : ∀ (n : Nat) (l2 : Int) (l3 : Int) (l4 : Int) (oA : AS) (pA : AS) (kc : Nat) (wo : va_W) (wp : va_W) (Ho : Xw a g (cl + kc) oA wo) (Hp : Xw b h9 (cl + kc) pA wp), F_L_areAlike_b42 n l2 l3 l4 oA pA kc = some res → J p l e ({ frames := 9, cells := 100, slots := 600, locals := 154 } : Room) s m args below meth c D A 5 Q kc (6 * kc) (wo ++ wp) 42 [(0, .ref (a 0)), (1, .ref (b 0)), (2, .int (vI l2)), (3, .int (vI l3)), (4, .int (vI l4))] [] := by
    intro n
    induction n with
    | zero => intro l2 l3 l4 oA pA kc wo wp Ho Hp h; exact no_h h
    | succ n ih42 =>
      intro l2 l3 l4 oA pA kc wo wp Ho Hp h
      replace h : F_L_areAlike_b42_body (F_L_areAlike_b42 n) l2 l3 l4 oA pA kc = some res := h
      generalize F_L_areAlike_b42 n = ag42 at ih42 h
      have J132 : ∀ (l2 : Int) (l4 : Int) (s0 : Int) (oA : AS) (pA : AS) (kc : Nat) (wo : va_W) (wp : va_W) (Ho : Xw a g (cl + kc) oA wo) (Hp : Xw b h9 (cl + kc) pA wp), F_L_areAlike_b132 ag42 l2 l4 s0 oA pA kc = some res → J p l e ({ frames := 9, cells := 100, slots := 600, locals := 154 } : Room) s m args below meth c D A 5 Q kc (6 * kc) (wo ++ wp) 132 [(0, .ref (a 0)), (1, .ref (b 0)), (2, .int (vI l2)), (4, .int (vI l4))] [.int (vI s0)] := by
        intro l2 l4 s0 oA pA kc wo wp Ho Hp h
        unfold F_L_areAlike_b132 at h
        refine j_istore_n C [(3, .int (vI s0)), (0, .ref (a 0)), (1, .ref (b 0)), (2, .int (vI l2)), (4, .int (vI l4))] rfl rfl (by decide) dL_areAlike_132 ?_
        refine j_iinc C 4 rfl (fun v => [(4, .int (vI v)), (3, .int (vI s0)), (0, .ref (a 0)), (1, .ref (b 0)), (2, .int (vI l2))]) (fun _ => rfl) (by decide) h dL_areAlike_133 (fun v18 h => ?_)
        refine j_goto C 42 (by decide) dL_areAlike_136 ?_
        refine j_lv [2, 3, 4, 1, 0] rfl ?_
        exact ih42 l2 s0 v18 oA pA kc wo wp Ho Hp h
      have J131 : ∀ (l2 : Int) (l4 : Int) (oA : AS) (pA : AS) (kc : Nat) (wo : va_W) (wp : va_W) (Ho : Xw a g (cl + kc) oA wo) (Hp : Xw b h9 (cl + kc) pA wp), F_L_areAlike_b131 ag42 l2 l4 oA pA kc = some res → J p l e ({ frames := 9, cells := 100, slots := 600, locals := 154 } : Room) s m args below meth c D A 5 Q kc (6 * kc) (wo ++ wp) 131 [(0, .ref (a 0)), (1, .ref (b 0)), (2, .int (vI l2)), (4, .int (vI l4))] [] := by
        intro l2 l4 oA pA kc wo wp Ho Hp h
        unfold F_L_areAlike_b131 at h
        refine j_iconst C dL_areAlike_131 ?_
        exact J132 l2 l4 0 oA pA kc wo wp Ho Hp h
      unfold F_L_areAlike_b42_body at h
      refine j_iload C 4 rfl dL_areAlike_42 ?_
      refine j_bipush C (by decide) dL_areAlike_44 ?_
      refine j_icmp_ge C h 139 (by decide) dL_areAlike_46 (fun c50 h => ?_) (fun c50 h => ?_)
      · refine j_lv [0, 1, 2, 3] rfl ?_
        exact J139 l2 l3 oA pA kc wo wp Ho Hp h
      · refine j_iload_n C 3 rfl rfl dL_areAlike_49 ?_
        refine j_if_eq C h 139 (by decide) dL_areAlike_50 (fun c49 h => ?_) (fun c49 h => ?_)
        · refine j_lv [0, 1, 2, 3] rfl ?_
          exact J139 l2 l3 oA pA kc wo wp Ho Hp h
        · refine j_aload_n C 0 rfl rfl dL_areAlike_53 ?_
          refine j_iload C 4 rfl dL_areAlike_54 ?_
          obtain ⟨hkr19, h⟩ := G_of h
          obtain ⟨r19, hr19, h⟩ := Ob_of h
          refine J.eq (st' := [.int (vI (sx l4)), .ref (a 0)]) (by first | (simp only [sx_v]; done) | (simp only [sx_v]; rfl)) ?_
          refine j_callE C T (u := []) (wc := wo) (v := wp) (wr_tokens l D a g hl (cl + kc) oA wo Ho (by omega) (sx l4) (sx_in _) r19 hr19) w435 w436 w0 w437 (n := 2) (by decide +kernel) ⟨(Nat.le_of_ble_eq_true rfl), (Nat.le_of_ble_eq_true rfl)⟩ rfl rfl rfl rfl (K_left C.2.2.2.2.2.2.1) (Nat.le_of_ble_eq_true rfl) rfl hkr19 (by show 6 * kc + 6 * 1 ≤ 6 * 100; omega) dL_areAlike_56 (fun w20 hpw20 _ => ?_)
          have hb21 := Xw_le (cl' := cl + (kc + 1)) (by omega) Hp
          refine j_cs (c1 := (kc + 1)) (s1 := 6 * (kc + 1)) (w1 := (w20 ++ wp)) rfl (by omega) rfl ?_
          have hqw20 : Xw a g (cl + (kc + 1)) r19.2 w20 := hpw20
          refine j_aload_n C 1 rfl rfl dL_areAlike_59 ?_
          refine j_iload C 4 rfl dL_areAlike_60 ?_
          obtain ⟨hkr22, h⟩ := G_of h
          obtain ⟨r22, hr22, h⟩ := Ob_of h
          refine J.eq (st' := [.int (vI (sx l4)), .ref (b 0), .int (vI r19.1)]) (by first | (simp only [sx_v]; done) | (simp only [sx_v]; rfl)) ?_
          refine j_callE C T (u := w20) (wc := wp) (v := []) (wr_tokens l D b h9 hl (cl + (kc + 1)) pA wp hb21 (by omega) (sx l4) (sx_in _) r22 hr22) w435 w436 w0 w437 (n := 2) (by decide +kernel) ⟨(Nat.le_of_ble_eq_true rfl), (Nat.le_of_ble_eq_true rfl)⟩ rfl rfl rfl (List.append_nil _) (K_right C.2.2.2.2.2.2.1) (Nat.le_of_ble_eq_true rfl) rfl hkr22 (by show 6 * (kc + 1) + 6 * 1 ≤ 6 * 100; omega) dL_areAlike_62 (fun w23 hpw23 _ => ?_)
          have hb24 := Xw_le (cl' := cl + ((kc + 1) + 1)) (by omega) hqw20
          refine j_cs (c1 := ((kc + 1) + 1)) (s1 := 6 * ((kc + 1) + 1)) (w1 := (w20 ++ w23)) rfl (by omega) (List.append_nil _) ?_
          have hqw23 : Xw b h9 (cl + ((kc + 1) + 1)) r22.2 w23 := hpw23
          refine j_icmp_ne C h 131 (by decide) dL_areAlike_65 (fun c48 h => ?_) (fun c48 h => ?_)
          · refine j_lv [0, 1, 2, 4] rfl ?_
            exact J131 l2 l4 r19.2 r22.2 ((kc + 1) + 1) w20 w23 hb24 hqw23 h
          · refine j_aload_n C 0 rfl rfl dL_areAlike_68 ?_
            refine j_iload C 4 rfl dL_areAlike_69 ?_
            obtain ⟨hkr25, h⟩ := G_of h
            obtain ⟨r25, hr25, h⟩ := Ob_of h
            refine J.eq (st' := [.int (vI (sx l4)), .ref (a 0)]) (by first | (simp only [sx_v]; done) | (simp only [sx_v]; rfl)) ?_
            refine j_callE C T (u := []) (wc := w20) (v := w23) (wr_can l D a g hl (cl + ((kc + 1) + 1)) r19.2 w20 hb24 (by omega) (sx l4) (sx_in _) r25 hr25) w445 w446 w0 w447 (n := 2) (by decide +kernel) ⟨(Nat.le_of_ble_eq_true rfl), (Nat.le_of_ble_eq_true rfl)⟩ rfl rfl rfl rfl (K_left C.2.2.2.2.2.2.1) (Nat.le_of_ble_eq_true rfl) rfl hkr25 (by show 6 * ((kc + 1) + 1) + 6 * 1 ≤ 6 * 100; omega) dL_areAlike_71 (fun w26 hpw26 _ => ?_)
            have hb27 := Xw_le (cl' := cl + (((kc + 1) + 1) + 1)) (by omega) hqw23
            refine j_cs (c1 := (((kc + 1) + 1) + 1)) (s1 := 6 * (((kc + 1) + 1) + 1)) (w1 := (w26 ++ w23)) rfl (by omega) rfl ?_
            have hqw26 : Xw a g (cl + (((kc + 1) + 1) + 1)) r25.2 w26 := hpw26
            refine j_aload_n C 1 rfl rfl dL_areAlike_74 ?_
            refine j_iload C 4 rfl dL_areAlike_75 ?_
            obtain ⟨hkr28, h⟩ := G_of h
            obtain ⟨r28, hr28, h⟩ := Ob_of h
            refine J.eq (st' := [.int (vI (sx l4)), .ref (b 0), .int (vI r25.1)]) (by first | (simp only [sx_v]; done) | (simp only [sx_v]; rfl)) ?_
            refine j_callE C T (u := w26) (wc := w23) (v := []) (wr_can l D b h9 hl (cl + (((kc + 1) + 1) + 1)) r22.2 w23 hb27 (by omega) (sx l4) (sx_in _) r28 hr28) w445 w446 w0 w447 (n := 2) (by decide +kernel) ⟨(Nat.le_of_ble_eq_true rfl), (Nat.le_of_ble_eq_true rfl)⟩ rfl rfl rfl (List.append_nil _) (K_right C.2.2.2.2.2.2.1) (Nat.le_of_ble_eq_true rfl) rfl hkr28 (by show 6 * (((kc + 1) + 1) + 1) + 6 * 1 ≤ 6 * 100; omega) dL_areAlike_77 (fun w29 hpw29 _ => ?_)
            have hb30 := Xw_le (cl' := cl + ((((kc + 1) + 1) + 1) + 1)) (by omega) hqw26
            refine j_cs (c1 := ((((kc + 1) + 1) + 1) + 1)) (s1 := 6 * ((((kc + 1) + 1) + 1) + 1)) (w1 := (w26 ++ w29)) rfl (by omega) (List.append_nil _) ?_
            have hqw29 : Xw b h9 (cl + ((((kc + 1) + 1) + 1) + 1)) r28.2 w29 := hpw29
            refine j_icmp_ne C h 131 (by decide) dL_areAlike_80 (fun c47 h => ?_) (fun c47 h => ?_)
            · refine j_lv [0, 1, 2, 4] rfl ?_
              exact J131 l2 l4 r25.2 r28.2 ((((kc + 1) + 1) + 1) + 1) w26 w29 hb30 hqw29 h
            · refine j_aload_n C 0 rfl rfl dL_areAlike_83 ?_
              refine j_iload_n C 2 rfl rfl dL_areAlike_84 ?_
              refine j_iload C 4 rfl dL_areAlike_85 ?_
              refine j_iadd C dL_areAlike_87 ?_
              refine j_bipush C (by decide) dL_areAlike_88 ?_
              obtain ⟨hkr31, h⟩ := G_of h
              obtain ⟨r31, hr31, h⟩ := Ob_of h
              refine q_L_77 C (u := []) (v := []) (wc := (w26 ++ w29)) (wc' := (w26 ++ w29)) (c_L_low l D _ _ (l2 + l4) 16 r31 hr31) ⟨(Nat.le_of_ble_eq_true rfl), (Nat.le_of_ble_eq_true rfl)⟩ rfl rfl rfl (ww _) (ww _) rfl C.2.2.2.2.2.2.1 (Nat.le_of_ble_eq_true rfl) rfl rfl hkr31 (Nat.mul_le_mul_left 6 hkr31) dL_areAlike_90 ?_
              obtain ⟨hkr32, h⟩ := G_of h
              obtain ⟨r32, hr32, h⟩ := Ob_of h
              refine J.eq (st' := [.int (vI (sx r31)), .ref (a 0)]) (by first | (simp only [sx_v]; done) | (simp only [sx_v]; rfl)) ?_
              refine j_callE C T (u := []) (wc := w26) (v := w29) (wr_trap l D a g hl (cl + ((((kc + 1) + 1) + 1) + 1)) r25.2 w26 hb30 (by omega) (sx r31) (sx_in _) r32 hr32) w748 w749 w0 w750 (n := 2) (by decide +kernel) ⟨(Nat.le_of_ble_eq_true rfl), (Nat.le_of_ble_eq_true rfl)⟩ rfl rfl rfl rfl (K_left C.2.2.2.2.2.2.1) (Nat.le_of_ble_eq_true rfl) rfl hkr32 (by show 6 * ((((kc + 1) + 1) + 1) + 1) + 6 * 1 ≤ 6 * 100; omega) dL_areAlike_93 (fun w33 hpw33 _ => ?_)
              have hb34 := Xw_le (cl' := cl + (((((kc + 1) + 1) + 1) + 1) + 1)) (by omega) hqw29
              refine j_cs (c1 := (((((kc + 1) + 1) + 1) + 1) + 1)) (s1 := 6 * (((((kc + 1) + 1) + 1) + 1) + 1)) (w1 := (w33 ++ w29)) rfl (by omega) rfl ?_
              have hqw33 : Xw a g (cl + (((((kc + 1) + 1) + 1) + 1) + 1)) r32.2 w33 := hpw33
              refine j_aload_n C 1 rfl rfl dL_areAlike_96 ?_
              refine j_iload_n C 2 rfl rfl dL_areAlike_97 ?_
              refine j_iload C 4 rfl dL_areAlike_98 ?_
              refine j_iadd C dL_areAlike_100 ?_
              refine j_bipush C (by decide) dL_areAlike_101 ?_
              obtain ⟨hkr35, h⟩ := G_of h
              obtain ⟨r35, hr35, h⟩ := Ob_of h
              refine q_L_77 C (u := []) (v := []) (wc := (w33 ++ w29)) (wc' := (w33 ++ w29)) (c_L_low l D _ _ (l2 + l4) 16 r35 hr35) ⟨(Nat.le_of_ble_eq_true rfl), (Nat.le_of_ble_eq_true rfl)⟩ rfl rfl rfl (ww _) (ww _) rfl C.2.2.2.2.2.2.1 (Nat.le_of_ble_eq_true rfl) rfl rfl hkr35 (Nat.mul_le_mul_left 6 hkr35) dL_areAlike_103 ?_
              obtain ⟨hkr36, h⟩ := G_of h
              obtain ⟨r36, hr36, h⟩ := Ob_of h
              refine J.eq (st' := [.int (vI (sx r35)), .ref (b 0), .int (vI r32.1)]) (by first | (simp only [sx_v]; done) | (simp only [sx_v]; rfl)) ?_
              refine j_callE C T (u := w33) (wc := w29) (v := []) (wr_trap l D b h9 hl (cl + (((((kc + 1) + 1) + 1) + 1) + 1)) r28.2 w29 hb34 (by omega) (sx r35) (sx_in _) r36 hr36) w748 w749 w0 w750 (n := 2) (by decide +kernel) ⟨(Nat.le_of_ble_eq_true rfl), (Nat.le_of_ble_eq_true rfl)⟩ rfl rfl rfl (List.append_nil _) (K_right C.2.2.2.2.2.2.1) (Nat.le_of_ble_eq_true rfl) rfl hkr36 (by show 6 * (((((kc + 1) + 1) + 1) + 1) + 1) + 6 * 1 ≤ 6 * 100; omega) dL_areAlike_106 (fun w37 hpw37 _ => ?_)
              have hb38 := Xw_le (cl' := cl + ((((((kc + 1) + 1) + 1) + 1) + 1) + 1)) (by omega) hqw33
              refine j_cs (c1 := ((((((kc + 1) + 1) + 1) + 1) + 1) + 1)) (s1 := 6 * ((((((kc + 1) + 1) + 1) + 1) + 1) + 1)) (w1 := (w33 ++ w37)) rfl (by omega) (List.append_nil _) ?_
              have hqw37 : Xw b h9 (cl + ((((((kc + 1) + 1) + 1) + 1) + 1) + 1)) r36.2 w37 := hpw37
              refine j_icmp_ne C h 131 (by decide) dL_areAlike_109 (fun c46 h => ?_) (fun c46 h => ?_)
              · refine j_lv [0, 1, 2, 4] rfl ?_
                exact J131 l2 l4 r32.2 r36.2 ((((((kc + 1) + 1) + 1) + 1) + 1) + 1) w33 w37 hb38 hqw37 h
              · refine j_aload_n C 0 rfl rfl dL_areAlike_112 ?_
                refine j_iload C 4 rfl dL_areAlike_113 ?_
                obtain ⟨hkr39, h⟩ := G_of h
                obtain ⟨r39, hr39, h⟩ := Ob_of h
                refine J.eq (st' := [.int (vI (sx l4)), .ref (a 0)]) (by first | (simp only [sx_v]; done) | (simp only [sx_v]; rfl)) ?_
                refine j_callE C T (u := []) (wc := w33) (v := w37) (wr_siphon l D a g hl (cl + ((((((kc + 1) + 1) + 1) + 1) + 1) + 1)) r32.2 w33 hb38 (by omega) (sx l4) (sx_in _) r39 hr39) w736 w737 w0 w738 (n := 2) (by decide +kernel) ⟨(Nat.le_of_ble_eq_true rfl), (Nat.le_of_ble_eq_true rfl)⟩ rfl rfl rfl rfl (K_left C.2.2.2.2.2.2.1) (Nat.le_of_ble_eq_true rfl) rfl hkr39 (by show 6 * ((((((kc + 1) + 1) + 1) + 1) + 1) + 1) + 6 * 1 ≤ 6 * 100; omega) dL_areAlike_115 (fun w40 hpw40 _ => ?_)
                have hb41 := Xw_le (cl' := cl + (((((((kc + 1) + 1) + 1) + 1) + 1) + 1) + 1)) (by omega) hqw37
                refine j_cs (c1 := (((((((kc + 1) + 1) + 1) + 1) + 1) + 1) + 1)) (s1 := 6 * (((((((kc + 1) + 1) + 1) + 1) + 1) + 1) + 1)) (w1 := (w40 ++ w37)) rfl (by omega) rfl ?_
                have hqw40 : Xw a g (cl + (((((((kc + 1) + 1) + 1) + 1) + 1) + 1) + 1)) r39.2 w40 := hpw40
                refine j_aload_n C 1 rfl rfl dL_areAlike_118 ?_
                refine j_iload C 4 rfl dL_areAlike_119 ?_
                obtain ⟨hkr42, h⟩ := G_of h
                obtain ⟨r42, hr42, h⟩ := Ob_of h
                refine J.eq (st' := [.int (vI (sx l4)), .ref (b 0), .int (vI r39.1)]) (by first | (simp only [sx_v]; done) | (simp only [sx_v]; rfl)) ?_
                refine j_callE C T (u := w40) (wc := w37) (v := []) (wr_siphon l D b h9 hl (cl + (((((((kc + 1) + 1) + 1) + 1) + 1) + 1) + 1)) r36.2 w37 hb41 (by omega) (sx l4) (sx_in _) r42 hr42) w736 w737 w0 w738 (n := 2) (by decide +kernel) ⟨(Nat.le_of_ble_eq_true rfl), (Nat.le_of_ble_eq_true rfl)⟩ rfl rfl rfl (List.append_nil _) (K_right C.2.2.2.2.2.2.1) (Nat.le_of_ble_eq_true rfl) rfl hkr42 (by show 6 * (((((((kc + 1) + 1) + 1) + 1) + 1) + 1) + 1) + 6 * 1 ≤ 6 * 100; omega) dL_areAlike_121 (fun w43 hpw43 _ => ?_)
                have hb44 := Xw_le (cl' := cl + ((((((((kc + 1) + 1) + 1) + 1) + 1) + 1) + 1) + 1)) (by omega) hqw40
                refine j_cs (c1 := ((((((((kc + 1) + 1) + 1) + 1) + 1) + 1) + 1) + 1)) (s1 := 6 * ((((((((kc + 1) + 1) + 1) + 1) + 1) + 1) + 1) + 1)) (w1 := (w40 ++ w43)) rfl (by omega) (List.append_nil _) ?_
                have hqw43 : Xw b h9 (cl + ((((((((kc + 1) + 1) + 1) + 1) + 1) + 1) + 1) + 1)) r42.2 w43 := hpw43
                refine j_icmp_ne C h 131 (by decide) dL_areAlike_124 (fun c45 h => ?_) (fun c45 h => ?_)
                · refine j_lv [0, 1, 2, 4] rfl ?_
                  exact J131 l2 l4 r39.2 r42.2 ((((((((kc + 1) + 1) + 1) + 1) + 1) + 1) + 1) + 1) w40 w43 hb44 hqw43 h
                · refine j_iconst C dL_areAlike_127 ?_
                  refine j_goto C 132 (by decide) dL_areAlike_128 ?_
                  refine j_lv [0, 1, 2, 4] rfl ?_
                  exact J132 l2 l4 1 r39.2 r42.2 ((((((((kc + 1) + 1) + 1) + 1) + 1) + 1) + 1) + 1) w40 w43 hb44 hqw43 h
  have J38 : ∀ (l2 : Int) (s0 : Int) (oA : AS) (pA : AS) (kc : Nat) (wo : va_W) (wp : va_W) (Ho : Xw a g (cl + kc) oA wo) (Hp : Xw b h9 (cl + kc) pA wp), F_L_areAlike_b38 l2 s0 oA pA kc = some res → J p l e ({ frames := 9, cells := 100, slots := 600, locals := 154 } : Room) s m args below meth c D A 5 Q kc (6 * kc) (wo ++ wp) 38 [(0, .ref (a 0)), (1, .ref (b 0)), (2, .int (vI l2))] [.int (vI s0)] := by
    intro l2 s0 oA pA kc wo wp Ho Hp h
    unfold F_L_areAlike_b38 at h
    refine j_istore_n C [(3, .int (vI s0)), (0, .ref (a 0)), (1, .ref (b 0)), (2, .int (vI l2))] rfl rfl (by decide) dL_areAlike_38 ?_
    refine j_iconst C dL_areAlike_39 ?_
    refine j_istore C [(4, .int (vI 0)), (3, .int (vI s0)), (0, .ref (a 0)), (1, .ref (b 0)), (2, .int (vI l2))] rfl (by decide) dL_areAlike_40 ?_
    refine j_lv [2, 3, 4, 1, 0] rfl ?_
    exact J42 NN l2 s0 0 oA pA kc wo wp Ho Hp h
  have J37 : ∀ (l2 : Int) (oA : AS) (pA : AS) (kc : Nat) (wo : va_W) (wp : va_W) (Ho : Xw a g (cl + kc) oA wo) (Hp : Xw b h9 (cl + kc) pA wp), F_L_areAlike_b37 l2 oA pA kc = some res → J p l e ({ frames := 9, cells := 100, slots := 600, locals := 154 } : Room) s m args below meth c D A 5 Q kc (6 * kc) (wo ++ wp) 37 [(0, .ref (a 0)), (1, .ref (b 0)), (2, .int (vI l2))] [] := by
    intro l2 oA pA kc wo wp Ho Hp h
    unfold F_L_areAlike_b37 at h
    refine j_iconst C dL_areAlike_37 ?_
    exact J38 l2 0 oA pA kc wo wp Ho Hp h
  unfold F_L_areAlike at h
  refine j_aload_n C 0 rfl rfl dL_areAlike_0 ?_
  obtain ⟨hkr51, h⟩ := G_of h
  obtain ⟨r51, hr51, h⟩ := Ob_of h
  refine dj_goes C (u := []) (wc := wo) (v := wp) Ho (by omega)  hr51 rfl (K_left C.2.2.2.2.2.2.1) (Nat.le_of_ble_eq_true rfl) (Nat.le_of_ble_eq_true rfl) (Nat.le_of_ble_eq_true rfl) hkr51 (by show 6 * kc + 6 * 1 ≤ 6 * 100; omega) dL_areAlike_1 (fun w52 hpw52 _ => ?_)
  have hb53 := Xw_le (cl' := cl + (kc + 1)) (by omega) Hp
  refine j_cs (c1 := (kc + 1)) (s1 := 6 * (kc + 1)) (w1 := (w52 ++ wp)) rfl (by omega) rfl ?_
  have hqw52 : Xw a g (cl + (kc + 1)) r51.2 w52 := hpw52
  refine j_aload_n C 1 rfl rfl dL_areAlike_4 ?_
  obtain ⟨hkr54, h⟩ := G_of h
  obtain ⟨r54, hr54, h⟩ := Ob_of h
  refine dj_goes C (u := w52) (wc := wp) (v := []) hb53 (by omega)  hr54 (List.append_nil _) (K_right C.2.2.2.2.2.2.1) (Nat.le_of_ble_eq_true rfl) (Nat.le_of_ble_eq_true rfl) (Nat.le_of_ble_eq_true rfl) hkr54 (by show 6 * (kc + 1) + 6 * 1 ≤ 6 * 100; omega) dL_areAlike_5 (fun w55 hpw55 _ => ?_)
  have hb56 := Xw_le (cl' := cl + ((kc + 1) + 1)) (by omega) hqw52
  refine j_cs (c1 := ((kc + 1) + 1)) (s1 := 6 * ((kc + 1) + 1)) (w1 := (w52 ++ w55)) rfl (by omega) (List.append_nil _) ?_
  have hqw55 : Xw b h9 (cl + ((kc + 1) + 1)) r54.2 w55 := hpw55
  refine j_icmp_ne C h 37 (by decide) dL_areAlike_8 (fun c71 h => ?_) (fun c71 h => ?_)
  · exact J37 x2 r51.2 r54.2 ((kc + 1) + 1) w52 w55 hb56 hqw55 h
  · refine j_aload_n C 0 rfl rfl dL_areAlike_11 ?_
    obtain ⟨hkr57, h⟩ := G_of h
    obtain ⟨r57, hr57, h⟩ := Ob_of h
    refine dj_isPromising C (u := []) (wc := w52) (v := w55) hb56 (by omega)  hr57 rfl (K_left C.2.2.2.2.2.2.1) (Nat.le_of_ble_eq_true rfl) (Nat.le_of_ble_eq_true rfl) (Nat.le_of_ble_eq_true rfl) hkr57 (by show 6 * ((kc + 1) + 1) + 6 * 1 ≤ 6 * 100; omega) dL_areAlike_12 (fun w58 hpw58 _ => ?_)
    have hb59 := Xw_le (cl' := cl + (((kc + 1) + 1) + 1)) (by omega) hqw55
    refine j_cs (c1 := (((kc + 1) + 1) + 1)) (s1 := 6 * (((kc + 1) + 1) + 1)) (w1 := (w58 ++ w55)) rfl (by omega) rfl ?_
    have hqw58 : Xw a g (cl + (((kc + 1) + 1) + 1)) r57.2 w58 := hpw58
    refine j_aload_n C 1 rfl rfl dL_areAlike_15 ?_
    obtain ⟨hkr60, h⟩ := G_of h
    obtain ⟨r60, hr60, h⟩ := Ob_of h
    refine dj_isPromising C (u := w58) (wc := w55) (v := []) hb59 (by omega)  hr60 (List.append_nil _) (K_right C.2.2.2.2.2.2.1) (Nat.le_of_ble_eq_true rfl) (Nat.le_of_ble_eq_true rfl) (Nat.le_of_ble_eq_true rfl) hkr60 (by show 6 * (((kc + 1) + 1) + 1) + 6 * 1 ≤ 6 * 100; omega) dL_areAlike_16 (fun w61 hpw61 _ => ?_)
    have hb62 := Xw_le (cl' := cl + ((((kc + 1) + 1) + 1) + 1)) (by omega) hqw58
    refine j_cs (c1 := ((((kc + 1) + 1) + 1) + 1)) (s1 := 6 * ((((kc + 1) + 1) + 1) + 1)) (w1 := (w58 ++ w61)) rfl (by omega) (List.append_nil _) ?_
    have hqw61 : Xw b h9 (cl + ((((kc + 1) + 1) + 1) + 1)) r60.2 w61 := hpw61
    refine j_icmp_ne C h 37 (by decide) dL_areAlike_19 (fun c70 h => ?_) (fun c70 h => ?_)
    · exact J37 x2 r57.2 r60.2 ((((kc + 1) + 1) + 1) + 1) w58 w61 hb62 hqw61 h
    · refine j_aload_n C 0 rfl rfl dL_areAlike_22 ?_
      obtain ⟨hkr63, h⟩ := G_of h
      obtain ⟨r63, hr63, h⟩ := Ob_of h
      refine dj_siphons C (u := []) (wc := w58) (v := w61) hb62 (by omega)  hr63 rfl (K_left C.2.2.2.2.2.2.1) (Nat.le_of_ble_eq_true rfl) (Nat.le_of_ble_eq_true rfl) (Nat.le_of_ble_eq_true rfl) hkr63 (by show 6 * ((((kc + 1) + 1) + 1) + 1) + 6 * 1 ≤ 6 * 100; omega) dL_areAlike_23 (fun w64 hpw64 _ => ?_)
      have hb65 := Xw_le (cl' := cl + (((((kc + 1) + 1) + 1) + 1) + 1)) (by omega) hqw61
      refine j_cs (c1 := (((((kc + 1) + 1) + 1) + 1) + 1)) (s1 := 6 * (((((kc + 1) + 1) + 1) + 1) + 1)) (w1 := (w64 ++ w61)) rfl (by omega) rfl ?_
      have hqw64 : Xw a g (cl + (((((kc + 1) + 1) + 1) + 1) + 1)) r63.2 w64 := hpw64
      refine j_aload_n C 1 rfl rfl dL_areAlike_26 ?_
      obtain ⟨hkr66, h⟩ := G_of h
      obtain ⟨r66, hr66, h⟩ := Ob_of h
      refine dj_siphons C (u := w64) (wc := w61) (v := []) hb65 (by omega)  hr66 (List.append_nil _) (K_right C.2.2.2.2.2.2.1) (Nat.le_of_ble_eq_true rfl) (Nat.le_of_ble_eq_true rfl) (Nat.le_of_ble_eq_true rfl) hkr66 (by show 6 * (((((kc + 1) + 1) + 1) + 1) + 1) + 6 * 1 ≤ 6 * 100; omega) dL_areAlike_27 (fun w67 hpw67 _ => ?_)
      have hb68 := Xw_le (cl' := cl + ((((((kc + 1) + 1) + 1) + 1) + 1) + 1)) (by omega) hqw64
      refine j_cs (c1 := ((((((kc + 1) + 1) + 1) + 1) + 1) + 1)) (s1 := 6 * ((((((kc + 1) + 1) + 1) + 1) + 1) + 1)) (w1 := (w64 ++ w67)) rfl (by omega) (List.append_nil _) ?_
      have hqw67 : Xw b h9 (cl + ((((((kc + 1) + 1) + 1) + 1) + 1) + 1)) r66.2 w67 := hpw67
      refine j_icmp_ne C h 37 (by decide) dL_areAlike_30 (fun c69 h => ?_) (fun c69 h => ?_)
      · exact J37 x2 r63.2 r66.2 ((((((kc + 1) + 1) + 1) + 1) + 1) + 1) w64 w67 hb68 hqw67 h
      · refine j_iconst C dL_areAlike_33 ?_
        refine j_goto C 38 (by decide) dL_areAlike_34 ?_
        exact J38 x2 1 r63.2 r66.2 ((((((kc + 1) + 1) + 1) + 1) + 1) + 1) w64 w67 hb68 hqw67 h
set_option maxRecDepth 100000 in
theorem c_L_areAlike (l : Launch) (D : va_G) (a : Nat → Nat) (g : Nat → ClassId) (b : Nat → Nat) (h9 : Nat → ClassId) (hl : l.stackTraces = false) (cl : Nat) (hcl : cl + 100 ≤ 900000) (oA : AS) (pA : AS) (wo : va_W) (wp : va_W) (Ho : Xw a g cl oA wo) (Hp : Xw b h9 cl pA wp) (x2 : Int) (res : Int × AS × AS × Nat) (h : F_L_areAlike x2 oA pA 0 = some res) : Ke l yL_areAlike (Cond.code yL_areAlike cL_areAlike 5 (some .boolean)) ({ frames := 9, cells := 100, slots := 600, locals := 154 } : Room) D (xT g ++ xT h9) [.ref (a 0), .ref (b 0), .int (vI x2)] (wo ++ wp) (fun w => ∃ w1 w2, w = w1 ++ w2 ∧ Xw a g (cl + 100) res.2.1 w1 ∧ Xw b h9 (cl + 100) res.2.2.1 w2) res.1 100 (6 * 100) :=
  kz_of rfl (by decide +kernel) (Nat.le_of_ble_eq_true rfl) (fun {p} {e} {s} {m} {args} {below} {meth} {c} {A} {Q} C T RET => k_L_areAlike C T hl cl hcl x2 oA pA 0 wo wp Ho Hp res h (fun w1 w2 pc lv H1 H2 hkc hz hd => RET _ pc lv (⟨w1, w2, rfl, Xw_le (by omega) H1, Xw_le (by omega) H2⟩) (by rw [List.map_append, List.map_append, Xw_ha H1 Ho, Xw_ha H2 Hp]) hz hd))
end WK
