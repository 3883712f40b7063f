section WK
variable {p : Program} {l : Launch} {e : Env} {s : State} {m : MethodId} {args : Array Value} {below : List Frame} {meth : Method} {c : Code} {D : va_G} {A : Nat → Prop} {Q : State → Prop}
set_option maxRecDepth 100000 in
set_option maxHeartbeats 8000000 in
theorem k_L_act {a : Nat → Nat} {g : Nat → ClassId} (C : JC p s m args meth c cL_act 6 "MarkingHallLaw" D (xT g) A) (T : TT A s) (hl : l.stackTraces = false) (cl : Nat) (hcl : cl + 1 ≤ 900000) (x1 : Int) (oA : AS) (kc : Nat) (wo : va_W) (Ho : Xw a g (cl + kc) oA wo) (res : Int × AS × Nat) (h : F_L_act x1 oA kc = some res) (RET : ∀ (wo : va_W) (pc : Nat) (lv : List (Nat × Value)) (Ho : Xw a g (cl + res.2.2) res.2.1 wo), res.2.2 ≤ 1 → decode cL_act pc = .ok (.ireturn, 1) → J p l e ({ frames := 9, cells := 1, slots := 6, locals := 168 } : Room) s m args below meth c D A 6 Q 1 (6 * 1) wo pc lv [.int (vI res.1)]) : J p l e ({ frames := 9, cells := 1, slots := 6, locals := 168 } : Room) s m args below meth c D A 6 Q kc (6 * kc) wo 0 [(0, .ref (a 0)), (1, .int (vI x1))] [] := by
  have J727 : ∀ (oA : AS) (kc : Nat) (wo : va_W) (Ho : Xw a g (cl + kc) oA wo), F_L_act_b727 oA kc = some res → J p l e ({ frames := 9, cells := 1, slots := 6, locals := 168 } : Room) s m args below meth c D A 6 Q kc (6 * kc) wo 727 [(0, .ref (a 0))] [] := by
    intro oA kc wo Ho h
    unfold F_L_act_b727 at h
    refine j_aload_n C 0 rfl rfl dL_act_727 ?_
    obtain ⟨hkr1, h⟩ := G_of h
    obtain ⟨r1, hr1, h⟩ := Ob_of h
    refine dj_cost C (u := []) (wc := wo) (v := []) Ho (by omega)  hr1 (ww _) C.2.2.2.2.2.2.1 (Nat.le_of_ble_eq_true rfl) (Nat.le_of_ble_eq_true rfl) (Nat.le_of_ble_eq_true rfl) hkr1 (by show 6 * kc + 6 * 1 ≤ 6 * 1; omega) dL_act_728 (fun w2 hpw2 _ => ?_)
    refine j_cs (c1 := (kc + 1)) (s1 := 6 * (kc + 1)) (w1 := w2) rfl (by omega) (ww _) ?_
    have hqw2 : Xw a g (cl + (kc + 1)) r1.2 w2 := hpw2
    obtain ⟨hkc, h⟩ := G_of h
    cases h
    refine j_wide hkc (Nat.mul_le_mul_left 6 hkc) ?_
    exact RET w2 _ _ hqw2 hkc dL_act_731
  have J722 : ∀ (oA : AS) (kc : Nat) (wo : va_W) (Ho : Xw a g (cl + kc) oA wo), F_L_act_b722 oA kc = some res → J p l e ({ frames := 9, cells := 1, slots := 6, locals := 168 } : Room) s m args below meth c D A 6 Q kc (6 * kc) wo 722 [(0, .ref (a 0))] [] := by
    intro oA kc wo Ho h
    unfold F_L_act_b722 at h
    refine j_aload_n C 0 rfl rfl dL_act_722 ?_
    obtain ⟨hkr3, h⟩ := G_of h
    obtain ⟨r3, hr3, h⟩ := Ob_of h
    refine dj_goes C (u := []) (wc := wo) (v := []) Ho (by omega)  hr3 (ww _) C.2.2.2.2.2.2.1 (Nat.le_of_ble_eq_true rfl) (Nat.le_of_ble_eq_true rfl) (Nat.le_of_ble_eq_true rfl) hkr3 (by show 6 * kc + 6 * 1 ≤ 6 * 1; omega) dL_act_723 (fun w4 hpw4 _ => ?_)
    refine j_cs (c1 := (kc + 1)) (s1 := 6 * (kc + 1)) (w1 := w4) rfl (by omega) (ww _) ?_
    have hqw4 : Xw a g (cl + (kc + 1)) r3.2 w4 := hpw4
    obtain ⟨hkc, h⟩ := G_of h
    cases h
    refine j_wide hkc (Nat.mul_le_mul_left 6 hkc) ?_
    exact RET w4 _ _ hqw4 hkc dL_act_726
  have J692 : ∀ (l4 : Int) (oA : AS) (kc : Nat) (wo : va_W) (Ho : Xw a g (cl + kc) oA wo), F_L_act_b692 l4 oA kc = some res → J p l e ({ frames := 9, cells := 1, slots := 6, locals := 168 } : Room) s m args below meth c D A 6 Q kc (6 * kc) wo 692 [(0, .ref (a 0)), (4, .int (vI l4))] [] := by
    intro l4 oA kc wo Ho h
    unfold F_L_act_b692 at h
    refine j_aload_n C 0 rfl rfl dL_act_692 ?_
    refine j_iload C 1 rfl dL_act_693 ?_
    obtain ⟨hkr5, h⟩ := G_of h
    obtain ⟨r5, hr5, h⟩ := Ob_of h
    refine J.eq (st' := [.int (vI (sx l4)), .ref (a 0)]) (by first | (simp only [sx_v]; done) | (simp only [sx_v]; rfl)) ?_
    refine j_callE C T (u := []) (wc := wo) (v := []) (wr_log l D a g hl (cl + kc) oA wo Ho (by omega) (sx l4) (sx_in _) r5 hr5) w769 w770 w0 w771 (n := 2) (by decide +kernel) ⟨(Nat.le_of_ble_eq_true rfl), (Nat.le_of_ble_eq_true rfl)⟩ rfl rfl rfl (ww _) C.2.2.2.2.2.2.1 (Nat.le_of_ble_eq_true rfl) rfl hkr5 (by show 6 * kc + 6 * 1 ≤ 6 * 1; omega) dL_act_695 (fun w6 hpw6 _ => ?_)
    refine j_cs (c1 := (kc + 1)) (s1 := 6 * (kc + 1)) (w1 := w6) rfl (by omega) (ww _) ?_
    have hqw6 : Xw a g (cl + (kc + 1)) r5.2 w6 := hpw6
    obtain ⟨hkc, h⟩ := G_of h
    cases h
    refine j_wide hkc (Nat.mul_le_mul_left 6 hkc) ?_
    exact RET w6 _ _ hqw6 hkc dL_act_698
  have J675 : ∀ (s1 : Int) (oA : AS) (kc : Nat) (wo : va_W) (Ho : Xw a g (cl + kc) oA wo), F_L_act_b675 s1 oA kc = some res → J p l e ({ frames := 9, cells := 1, slots := 6, locals := 168 } : Room) s m args below meth c D A 6 Q kc (6 * kc) wo 675 [] [.int (vI s1), .ref (a 0)] := by
    intro s1 oA kc wo Ho h
    unfold F_L_act_b675 at h
    obtain ⟨hkr7, h⟩ := G_of h
    obtain ⟨r7, hr7, h⟩ := Ob_of h
    refine J.eq (st' := [.int (vI (sx s1)), .ref (a 0)]) (by first | (simp only [sx_v]; done) | (simp only [sx_v]; rfl)) ?_
    refine j_callE C T (u := []) (wc := wo) (v := []) (wr_trap l D a g hl (cl + kc) oA wo Ho (by omega) (sx s1) (sx_in _) r7 hr7) w748 w749 w0 w750 (n := 2) (by decide +kernel) ⟨(Nat.le_of_ble_eq_true rfl), (Nat.le_of_ble_eq_true rfl)⟩ rfl rfl rfl (ww _) C.2.2.2.2.2.2.1 (Nat.le_of_ble_eq_true rfl) rfl hkr7 (by show 6 * kc + 6 * 1 ≤ 6 * 1; omega) dL_act_675 (fun w8 hpw8 _ => ?_)
    refine j_cs (c1 := (kc + 1)) (s1 := 6 * (kc + 1)) (w1 := w8) rfl (by omega) (ww _) ?_
    have hqw8 : Xw a g (cl + (kc + 1)) r7.2 w8 := hpw8
    obtain ⟨hkc, h⟩ := G_of h
    cases h
    refine j_wide hkc (Nat.mul_le_mul_left 6 hkc) ?_
    exact RET w8 _ _ hqw8 hkc dL_act_678
  have J652 : ∀ (s1 : Int) (oA : AS) (kc : Nat) (wo : va_W) (Ho : Xw a g (cl + kc) oA wo), F_L_act_b652 s1 oA kc = some res → J p l e ({ frames := 9, cells := 1, slots := 6, locals := 168 } : Room) s m args below meth c D A 6 Q kc (6 * kc) wo 652 [] [.int (vI s1), .ref (a 0)] := by
    intro s1 oA kc wo Ho h
    unfold F_L_act_b652 at h
    obtain ⟨hkr9, h⟩ := G_of h
    obtain ⟨r9, hr9, h⟩ := Ob_of h
    refine J.eq (st' := [.int (vI (sx s1)), .ref (a 0)]) (by first | (simp only [sx_v]; done) | (simp only [sx_v]; rfl)) ?_
    refine j_callE C T (u := []) (wc := wo) (v := []) (wr_siphon l D a g hl (cl + kc) oA wo Ho (by omega) (sx s1) (sx_in _) r9 hr9) w736 w737 w0 w738 (n := 2) (by decide +kernel) ⟨(Nat.le_of_ble_eq_true rfl), (Nat.le_of_ble_eq_true rfl)⟩ rfl rfl rfl (ww _) C.2.2.2.2.2.2.1 (Nat.le_of_ble_eq_true rfl) rfl hkr9 (by show 6 * kc + 6 * 1 ≤ 6 * 1; omega) dL_act_652 (fun w10 hpw10 _ => ?_)
    refine j_cs (c1 := (kc + 1)) (s1 := 6 * (kc + 1)) (w1 := w10) rfl (by omega) (ww _) ?_
    have hqw10 : Xw a g (cl + (kc + 1)) r9.2 w10 := hpw10
    obtain ⟨hkc, h⟩ := G_of h
    cases h
    refine j_wide hkc (Nat.mul_le_mul_left 6 hkc) ?_
    exact RET w10 _ _ hqw10 hkc dL_act_655
  have J610 : ∀ (l4 : Int) (s1 : Int) (oA : AS) (kc : Nat) (wo : va_W) (Ho : Xw a g (cl + kc) oA wo), F_L_act_b610 l4 s1 oA kc = some res → J p l e ({ frames := 9, cells := 1, slots := 6, locals := 168 } : Room) s m args below meth c D A 6 Q kc (6 * kc) wo 610 [(4, .int (vI l4))] [.int (vI s1), .ref (a 0)] := by
    intro l4 s1 oA kc wo Ho h
    unfold F_L_act_b610 at h
    refine j_iload C 0 rfl dL_act_610 ?_
    obtain ⟨hkr11, h⟩ := G_of h
    obtain ⟨r11, hr11, h⟩ := Ob_of h
    refine J.eq (st' := [.int (vI (sx l4)), .int (vI (sx s1)), .ref (a 0)]) (by first | (simp only [sx_v]; done) | (simp only [sx_v]; rfl)) ?_
    refine j_callE C T (u := []) (wc := wo) (v := []) (wr_round l D a g hl (cl + kc) oA wo Ho (by omega) (sx s1) (sx l4) (sx_in _) (sx_in _) r11 hr11) w693 w694 w0 w695 (n := 3) (by decide +kernel) ⟨(Nat.le_of_ble_eq_true rfl), (Nat.le_of_ble_eq_true rfl)⟩ rfl rfl rfl (ww _) C.2.2.2.2.2.2.1 (Nat.le_of_ble_eq_true rfl) rfl hkr11 (by show 6 * kc + 6 * 1 ≤ 6 * 1; omega) dL_act_612 (fun w12 hpw12 _ => ?_)
    refine j_cs (c1 := (kc + 1)) (s1 := 6 * (kc + 1)) (w1 := w12) rfl (by omega) (ww _) ?_
    have hqw12 : Xw a g (cl + (kc + 1)) r11.2 w12 := hpw12
    obtain ⟨hkc, h⟩ := G_of h
    cases h
    refine j_wide hkc (Nat.mul_le_mul_left 6 hkc) ?_
    exact RET w12 _ _ hqw12 hkc dL_act_615
  have J576 : ∀ (l3 : Int) (s1 : Int) (oA : AS) (kc : Nat) (wo : va_W) (Ho : Xw a g (cl + kc) oA wo), F_L_act_b576 l3 s1 oA kc = some res → J p l e ({ frames := 9, cells := 1, slots := 6, locals := 168 } : Room) s m args below meth c D A 6 Q kc (6 * kc) wo 576 [(3, .int (vI l3))] [.int (vI s1), .ref (a 0)] := by
    intro l3 s1 oA kc wo Ho h
    unfold F_L_act_b576 at h
    refine j_iload_n C 0 rfl rfl dL_act_576 ?_
    obtain ⟨hkr13, h⟩ := G_of h
    obtain ⟨r13, hr13, h⟩ := Ob_of h
    refine J.eq (st' := [.int (vI (sx l3)), .int (vI (sx s1)), .ref (a 0)]) (by first | (simp only [sx_v]; done) | (simp only [sx_v]; rfl)) ?_
    refine j_callE C T (u := []) (wc := wo) (v := []) (wr_row l D a g hl (cl + kc) oA wo Ho (by omega) (sx s1) (sx l3) (sx_in _) (sx_in _) r13 hr13) w649 w650 w0 w651 (n := 3) (by decide +kernel) ⟨(Nat.le_of_ble_eq_true rfl), (Nat.le_of_ble_eq_true rfl)⟩ rfl rfl rfl (ww _) C.2.2.2.2.2.2.1 (Nat.le_of_ble_eq_true rfl) rfl hkr13 (by show 6 * kc + 6 * 1 ≤ 6 * 1; omega) dL_act_577 (fun w14 hpw14 _ => ?_)
    refine j_cs (c1 := (kc + 1)) (s1 := 6 * (kc + 1)) (w1 := w14) rfl (by omega) (ww _) ?_
    have hqw14 : Xw a g (cl + (kc + 1)) r13.2 w14 := hpw14
    obtain ⟨hkc, h⟩ := G_of h
    cases h
    refine j_wide hkc (Nat.mul_le_mul_left 6 hkc) ?_
    exact RET w14 _ _ hqw14 hkc dL_act_580
  have J549 : ∀ (s1 : Int) (s2 : Int) (s3 : Int) (oA : AS) (kc : Nat) (wo : va_W) (Ho : Xw a g (cl + kc) oA wo), F_L_act_b549 s1 s2 s3 oA kc = some res → J p l e ({ frames := 9, cells := 1, slots := 6, locals := 168 } : Room) s m args below meth c D A 6 Q kc (6 * kc) wo 549 [] [.int (vI s3), .int (vI s2), .int (vI s1), .ref (a 0)] := by
    intro s1 s2 s3 oA kc wo Ho h
    unfold F_L_act_b549 at h
    obtain ⟨hkr15, h⟩ := G_of h
    obtain ⟨r15, hr15, h⟩ := Ob_of h
    refine J.eq (st' := [.int (vI (sx s3)), .int (vI (sx s2)), .int (vI (sx s1)), .ref (a 0)]) (by first | (simp only [sx_v]; done) | (simp only [sx_v]; rfl)) ?_
    refine j_callE C T (u := []) (wc := wo) (v := []) (wr_step l D a g hl (cl + kc) oA wo Ho (by omega) (sx s1) (sx s2) (sx s3) (sx_in _) (sx_in _) (sx_in _) r15 hr15) w588 w589 w0 w590 (n := 4) (by decide +kernel) ⟨(Nat.le_of_ble_eq_true rfl), (Nat.le_of_ble_eq_true rfl)⟩ rfl rfl rfl (ww _) C.2.2.2.2.2.2.1 (Nat.le_of_ble_eq_true rfl) rfl hkr15 (by show 6 * kc + 6 * 1 ≤ 6 * 1; omega) dL_act_549 (fun w16 hpw16 _ => ?_)
    refine j_cs (c1 := (kc + 1)) (s1 := 6 * (kc + 1)) (w1 := w16) rfl (by omega) (ww _) ?_
    have hqw16 : Xw a g (cl + (kc + 1)) r15.2 w16 := hpw16
    obtain ⟨hkc, h⟩ := G_of h
    cases h
    refine j_wide hkc (Nat.mul_le_mul_left 6 hkc) ?_
    exact RET w16 _ _ hqw16 hkc dL_act_552
  have J517 : ∀ (s1 : Int) (s2 : Int) (oA : AS) (kc : Nat) (wo : va_W) (Ho : Xw a g (cl + kc) oA wo), F_L_act_b517 s1 s2 oA kc = some res → J p l e ({ frames := 9, cells := 1, slots := 6, locals := 168 } : Room) s m args below meth c D A 6 Q kc (6 * kc) wo 517 [] [.int (vI s2), .int (vI s1), .ref (a 0)] := by
    intro s1 s2 oA kc wo Ho h
    unfold F_L_act_b517 at h
    obtain ⟨hkr17, h⟩ := G_of h
    obtain ⟨r17, hr17, h⟩ := Ob_of h
    refine J.eq (st' := [.int (vI (sx s2)), .int (vI (sx s1)), .ref (a 0)]) (by first | (simp only [sx_v]; done) | (simp only [sx_v]; rfl)) ?_
    refine j_callE C T (u := []) (wc := wo) (v := []) (wr_way l D a g hl (cl + kc) oA wo Ho (by omega) (sx s1) (sx s2) (sx_in _) (sx_in _) r17 hr17) w573 w574 w0 w575 (n := 3) (by decide +kernel) ⟨(Nat.le_of_ble_eq_true rfl), (Nat.le_of_ble_eq_true rfl)⟩ rfl rfl rfl (ww _) C.2.2.2.2.2.2.1 (Nat.le_of_ble_eq_true rfl) rfl hkr17 (by show 6 * kc + 6 * 1 ≤ 6 * 1; omega) dL_act_517 (fun w18 hpw18 _ => ?_)
    refine j_cs (c1 := (kc + 1)) (s1 := 6 * (kc + 1)) (w1 := w18) rfl (by omega) (ww _) ?_
    have hqw18 : Xw a g (cl + (kc + 1)) r17.2 w18 := hpw18
    obtain ⟨hkc, h⟩ := G_of h
    cases h
    refine j_wide hkc (Nat.mul_le_mul_left 6 hkc) ?_
    exact RET w18 _ _ hqw18 hkc dL_act_520
  have J479 : ∀ (l3 : Int) (s1 : Int) (oA : AS) (kc : Nat) (wo : va_W) (Ho : Xw a g (cl + kc) oA wo), F_L_act_b479 l3 s1 oA kc = some res → J p l e ({ frames := 9, cells := 1, slots := 6, locals := 168 } : Room) s m args below meth c D A 6 Q kc (6 * kc) wo 479 [(3, .int (vI l3))] [.int (vI s1), .ref (a 0)] := by
    intro l3 s1 oA kc wo Ho h
    unfold F_L_act_b479 at h
    refine j_iload_n C 0 rfl rfl dL_act_479 ?_
    obtain ⟨hkr19, h⟩ := G_of h
    obtain ⟨r19, hr19, h⟩ := Ob_of h
    refine J.eq (st' := [.int (vI (sx l3)), .int (vI (sx s1)), .ref (a 0)]) (by first | (simp only [sx_v]; done) | (simp only [sx_v]; rfl)) ?_
    refine j_callE C T (u := []) (wc := wo) (v := []) (wr_marking l D a g hl (cl + kc) oA wo Ho (by omega) (sx s1) (sx l3) (sx_in _) (sx_in _) r19 hr19) w528 w529 w0 w530 (n := 3) (by decide +kernel) ⟨(Nat.le_of_ble_eq_true rfl), (Nat.le_of_ble_eq_true rfl)⟩ rfl rfl rfl (ww _) C.2.2.2.2.2.2.1 (Nat.le_of_ble_eq_true rfl) rfl hkr19 (by show 6 * kc + 6 * 1 ≤ 6 * 1; omega) dL_act_480 (fun w20 hpw20 _ => ?_)
    refine j_cs (c1 := (kc + 1)) (s1 := 6 * (kc + 1)) (w1 := w20) rfl (by omega) (ww _) ?_
    have hqw20 : Xw a g (cl + (kc + 1)) r19.2 w20 := hpw20
    obtain ⟨hkc, h⟩ := G_of h
    cases h
    refine j_wide hkc (Nat.mul_le_mul_left 6 hkc) ?_
    exact RET w20 _ _ hqw20 hkc dL_act_483
  have J456 : ∀ (s1 : Int) (oA : AS) (kc : Nat) (wo : va_W) (Ho : Xw a g (cl + kc) oA wo), F_L_act_b456 s1 oA kc = some res → J p l e ({ frames := 9, cells := 1, slots := 6, locals := 168 } : Room) s m args below meth c D A 6 Q kc (6 * kc) wo 456 [] [.int (vI s1), .ref (a 0)] := by
    intro s1 oA kc wo Ho h
    unfold F_L_act_b456 at h
    obtain ⟨hkr21, h⟩ := G_of h
    obtain ⟨r21, hr21, h⟩ := Ob_of h
    refine J.eq (st' := [.int (vI (sx s1)), .ref (a 0)]) (by first | (simp only [sx_v]; done) | (simp only [sx_v]; rfl)) ?_
    refine j_callE C T (u := []) (wc := wo) (v := []) (wr_graph l D a g hl (cl + kc) oA wo Ho (by omega) (sx s1) (sx_in _) r21 hr21) w478 w479 w0 w480 (n := 2) (by decide +kernel) ⟨(Nat.le_of_ble_eq_true rfl), (Nat.le_of_ble_eq_true rfl)⟩ rfl rfl rfl (ww _) C.2.2.2.2.2.2.1 (Nat.le_of_ble_eq_true rfl) rfl hkr21 (by show 6 * kc + 6 * 1 ≤ 6 * 1; omega) dL_act_456 (fun w22 hpw22 _ => ?_)
    refine j_cs (c1 := (kc + 1)) (s1 := 6 * (kc + 1)) (w1 := w22) rfl (by omega) (ww _) ?_
    have hqw22 : Xw a g (cl + (kc + 1)) r21.2 w22 := hpw22
    obtain ⟨hkc, h⟩ := G_of h
    cases h
    refine j_wide hkc (Nat.mul_le_mul_left 6 hkc) ?_
    exact RET w22 _ _ hqw22 hkc dL_act_459
  have J438 : ∀ (l1 : Int) (l2 : Int) (l5 : Int) (oA : AS) (kc : Nat) (wo : va_W) (Ho : Xw a g (cl + kc) oA wo), F_L_act_b438 l1 l2 l5 oA kc = some res → J p l e ({ frames := 9, cells := 1, slots := 6, locals := 168 } : Room) s m args below meth c D A 6 Q kc (6 * kc) wo 438 [(0, .ref (a 0)), (1, .int (vI l1)), (2, .int (vI l2)), (5, .int (vI l5))] [] := by
    intro l1 l2 l5 oA kc wo Ho h
    unfold F_L_act_b438 at h
    refine j_aload_n C 0 rfl rfl dL_act_438 ?_
    refine j_iload_n C 2 rfl rfl dL_act_439 ?_
    refine j_if_eq C h 448 (by decide) dL_act_440 (fun c24 h => ?_) (fun c24 h => ?_)
    · refine j_iload_n C 1 rfl rfl dL_act_448 ?_
      refine j_bipush C (by decide) dL_act_449 ?_
      refine j_ishr C dL_act_451 ?_
      refine j_iconst C dL_act_452 ?_
      obtain ⟨hkr23, h⟩ := G_of h
      obtain ⟨r23, hr23, h⟩ := Ob_of h
      refine q_L_77 C (u := []) (v := []) (wc := wo) (wc' := wo) (c_L_low l D _ _ (iShr l1 9) 4 r23 hr23) ⟨(Nat.le_of_ble_eq_true rfl), (Nat.le_of_ble_eq_true rfl)⟩ rfl rfl rfl (ww _) (ww _) rfl C.2.2.2.2.2.2.1 (Nat.le_of_ble_eq_true rfl) rfl rfl hkr23 (Nat.mul_le_mul_left 6 hkr23) dL_act_453 ?_
      refine j_lv [] rfl ?_
      exact J456 r23 oA kc wo Ho h
    · refine j_iload C 3 rfl dL_act_443 ?_
      refine j_goto C 456 (by decide) dL_act_445 ?_
      refine j_lv [] rfl ?_
      exact J456 l5 oA kc wo Ho h
  have J431 : ∀ (l4 : Int) (oA : AS) (kc : Nat) (wo : va_W) (Ho : Xw a g (cl + kc) oA wo), F_L_act_b431 l4 oA kc = some res → J p l e ({ frames := 9, cells := 1, slots := 6, locals := 168 } : Room) s m args below meth c D A 6 Q kc (6 * kc) wo 431 [(0, .ref (a 0)), (4, .int (vI l4))] [] := by
    intro l4 oA kc wo Ho h
    unfold F_L_act_b431 at h
    refine j_aload_n C 0 rfl rfl dL_act_431 ?_
    refine j_iload C 1 rfl dL_act_432 ?_
    obtain ⟨hkr25, h⟩ := G_of h
    obtain ⟨r25, hr25, h⟩ := Ob_of h
    refine J.eq (st' := [.int (vI (sx l4)), .ref (a 0)]) (by first | (simp only [sx_v]; done) | (simp only [sx_v]; rfl)) ?_
    refine j_callE C T (u := []) (wc := wo) (v := []) (wr_fire l D a g hl (cl + kc) oA wo Ho (by omega) (sx l4) (sx_in _) r25 hr25) w466 w467 w0 w468 (n := 2) (by decide +kernel) ⟨(Nat.le_of_ble_eq_true rfl), (Nat.le_of_ble_eq_true rfl)⟩ rfl rfl rfl (ww _) C.2.2.2.2.2.2.1 (Nat.le_of_ble_eq_true rfl) rfl hkr25 (by show 6 * kc + 6 * 1 ≤ 6 * 1; omega) dL_act_434 (fun w26 hpw26 _ => ?_)
    refine j_cs (c1 := (kc + 1)) (s1 := 6 * (kc + 1)) (w1 := w26) rfl (by omega) (ww _) ?_
    have hqw26 : Xw a g (cl + (kc + 1)) r25.2 w26 := hpw26
    obtain ⟨hkc, h⟩ := G_of h
    cases h
    refine j_wide hkc (Nat.mul_le_mul_left 6 hkc) ?_
    exact RET w26 _ _ hqw26 hkc dL_act_437
  have J395 : ∀ (s1 : Int) (s2 : Int) (s3 : Int) (s4 : Int) (oA : AS) (kc : Nat) (wo : va_W) (Ho : Xw a g (cl + kc) oA wo), F_L_act_b395 s1 s2 s3 s4 oA kc = some res → J p l e ({ frames := 9, cells := 1, slots := 6, locals := 168 } : Room) s m args below meth c D A 6 Q kc (6 * kc) wo 395 [] [.int (vI s4), .int (vI s3), .int (vI s2), .int (vI s1), .ref (a 0)] := by
    intro s1 s2 s3 s4 oA kc wo Ho h
    unfold F_L_act_b395 at h
    obtain ⟨hkr27, h⟩ := G_of h
    obtain ⟨r27, hr27, h⟩ := Ob_of h
    refine J.eq (st' := [.int (vI (sx s4)), .int (vI (sx s3)), .int (vI (sx s2)), .int (vI (sx s1)), .ref (a 0)]) (by first | (simp only [sx_v]; done) | (simp only [sx_v]; rfl)) ?_
    refine j_callE C T (u := []) (wc := wo) (v := []) (wr_arc l D a g hl (cl + kc) oA wo Ho (by omega) (sx s1) (sx s2) (sx s3) (sx s4) (sx_in _) (sx_in _) (sx_in _) (sx_in _) r27 hr27) w396 w397 w0 w398 (n := 5) (by decide +kernel) ⟨(Nat.le_of_ble_eq_true rfl), (Nat.le_of_ble_eq_true rfl)⟩ rfl rfl rfl (ww _) C.2.2.2.2.2.2.1 (Nat.le_of_ble_eq_true rfl) rfl hkr27 (by show 6 * kc + 6 * 1 ≤ 6 * 1; omega) dL_act_395 (fun w28 hpw28 _ => ?_)
    refine j_cs (c1 := (kc + 1)) (s1 := 6 * (kc + 1)) (w1 := w28) rfl (by omega) (ww _) ?_
    have hqw28 : Xw a g (cl + (kc + 1)) r27.2 w28 := hpw28
    obtain ⟨hkc, h⟩ := G_of h
    cases h
    refine j_wide hkc (Nat.mul_le_mul_left 6 hkc) ?_
    exact RET w28 _ _ hqw28 hkc dL_act_398
  have J375 : ∀ (l1 : Int) (l2 : Int) (l5 : Int) (s1 : Int) (s2 : Int) (s3 : Int) (oA : AS) (kc : Nat) (wo : va_W) (Ho : Xw a g (cl + kc) oA wo), F_L_act_b375 l1 l2 l5 s1 s2 s3 oA kc = some res → J p l e ({ frames := 9, cells := 1, slots := 6, locals := 168 } : Room) s m args below meth c D A 6 Q kc (6 * kc) wo 375 [(1, .int (vI l1)), (2, .int (vI l2)), (5, .int (vI l5))] [.int (vI s3), .int (vI s2), .int (vI s1), .ref (a 0)] := by
    intro l1 l2 l5 s1 s2 s3 oA kc wo Ho h
    unfold F_L_act_b375 at h
    refine j_iload_n C 1 rfl rfl dL_act_375 ?_
    refine j_if_eq C h 384 (by decide) dL_act_376 (fun c30 h => ?_) (fun c30 h => ?_)
    · refine j_iload_n C 0 rfl rfl dL_act_384 ?_
      refine j_bipush C (by decide) dL_act_385 ?_
      refine j_ishr C dL_act_387 ?_
      refine j_bipush C (by decide) dL_act_388 ?_
      obtain ⟨hkr29, h⟩ := G_of h
      obtain ⟨r29, hr29, h⟩ := Ob_of h
      refine q_L_77 C (u := []) (v := []) (wc := wo) (wc' := wo) (c_L_low l D _ _ (iShr l1 9) 6 r29 hr29) ⟨(Nat.le_of_ble_eq_true rfl), (Nat.le_of_ble_eq_true rfl)⟩ rfl rfl rfl (ww _) (ww _) rfl C.2.2.2.2.2.2.1 (Nat.le_of_ble_eq_true rfl) rfl rfl hkr29 (Nat.mul_le_mul_left 6 hkr29) dL_act_390 ?_
      refine j_iconst C dL_act_393 ?_
      refine j_idiv C h dL_act_394 (fun h => ?_)
      refine j_lv [] rfl ?_
      exact J395 s1 s2 s3 (iDiv r29 2) oA kc wo Ho h
    · refine j_iload C 2 rfl dL_act_379 ?_
      refine j_goto C 395 (by decide) dL_act_381 ?_
      refine j_lv [] rfl ?_
      exact J395 s1 s2 s3 l5 oA kc wo Ho h
  have J308 : ∀ (l1 : Int) (l2 : Int) (l3 : Int) (l4 : Int) (l5 : Int) (oA : AS) (kc : Nat) (wo : va_W) (Ho : Xw a g (cl + kc) oA wo), F_L_act_b308 l1 l2 l3 l4 l5 oA kc = some res → J p l e ({ frames := 9, cells := 1, slots := 6, locals := 168 } : Room) s m args below meth c D A 6 Q kc (6 * kc) wo 308 [(0, .ref (a 0)), (1, .int (vI l1)), (2, .int (vI l2)), (3, .int (vI l3)), (4, .int (vI l4)), (5, .int (vI l5))] [] := by
    intro l1 l2 l3 l4 l5 oA kc wo Ho h
    unfold F_L_act_b308 at h
    refine j_aload_n C 0 rfl rfl dL_act_308 ?_
    refine j_iload C 4 rfl dL_act_309 ?_
    refine j_iload_n C 3 rfl rfl dL_act_311 ?_
    refine j_iload_n C 2 rfl rfl dL_act_312 ?_
    refine j_if_eq C h 330 (by decide) dL_act_313 (fun c37 h => ?_) (fun c37 h => ?_)
    · refine j_iload_n C 1 rfl rfl dL_act_330 ?_
      refine j_bipush C (by decide) dL_act_331 ?_
      refine j_ishr C dL_act_333 ?_
      refine j_bipush C (by decide) dL_act_334 ?_
      obtain ⟨hkr31, h⟩ := G_of h
      obtain ⟨r31, hr31, h⟩ := Ob_of h
      refine q_L_77 C (u := []) (v := []) (wc := wo) (wc' := wo) (c_L_low l D _ _ (iShr l1 13) 9 r31 hr31) ⟨(Nat.le_of_ble_eq_true rfl), (Nat.le_of_ble_eq_true rfl)⟩ rfl rfl rfl (ww _) (ww _) rfl C.2.2.2.2.2.2.1 (Nat.le_of_ble_eq_true rfl) rfl rfl hkr31 (Nat.mul_le_mul_left 6 hkr31) dL_act_336 ?_
      refine j_iconst C dL_act_339 ?_
      refine j_icmp_ge C h 347 (by decide) dL_act_340 (fun c35 h => ?_) (fun c35 h => ?_)
      · refine j_iload_n C 1 rfl rfl dL_act_347 ?_
        refine j_bipush C (by decide) dL_act_348 ?_
        refine j_ishr C dL_act_350 ?_
        refine j_bipush C (by decide) dL_act_351 ?_
        obtain ⟨hkr32, h⟩ := G_of h
        obtain ⟨r32, hr32, h⟩ := Ob_of h
        refine q_L_77 C (u := []) (v := []) (wc := wo) (wc' := wo) (c_L_low l D _ _ (iShr l1 13) 9 r32 hr32) ⟨(Nat.le_of_ble_eq_true rfl), (Nat.le_of_ble_eq_true rfl)⟩ rfl rfl rfl (ww _) (ww _) rfl C.2.2.2.2.2.2.1 (Nat.le_of_ble_eq_true rfl) rfl rfl hkr32 (Nat.mul_le_mul_left 6 hkr32) dL_act_353 ?_
        refine j_bipush C (by decide) dL_act_356 ?_
        refine j_icmp_ge C h 365 (by decide) dL_act_358 (fun c34 h => ?_) (fun c34 h => ?_)
        · refine j_iconst C dL_act_365 ?_
          refine j_iload_n C 1 rfl rfl dL_act_366 ?_
          refine j_bipush C (by decide) dL_act_367 ?_
          refine j_ishr C dL_act_369 ?_
          refine j_iconst C dL_act_370 ?_
          obtain ⟨hkr33, h⟩ := G_of h
          obtain ⟨r33, hr33, h⟩ := Ob_of h
          refine q_L_77 C (u := []) (v := []) (wc := wo) (wc' := wo) (c_L_low l D _ _ (iShr l1 15) 2 r33 hr33) ⟨(Nat.le_of_ble_eq_true rfl), (Nat.le_of_ble_eq_true rfl)⟩ rfl rfl rfl (ww _) (ww _) rfl C.2.2.2.2.2.2.1 (Nat.le_of_ble_eq_true rfl) rfl rfl hkr33 (Nat.mul_le_mul_left 6 hkr33) dL_act_371 ?_
          refine j_iadd C dL_act_374 ?_
          refine j_lv [1, 2, 5] rfl ?_
          exact J375 l1 l2 l5 l4 l3 (2 + r33) oA kc wo Ho h
        · refine j_iconst C dL_act_361 ?_
          refine j_goto C 375 (by decide) dL_act_362 ?_
          refine j_lv [1, 2, 5] rfl ?_
          exact J375 l1 l2 l5 l4 l3 1 oA kc wo Ho h
      · refine j_iconst C dL_act_343 ?_
        refine j_goto C 375 (by decide) dL_act_344 ?_
        refine j_lv [1, 2, 5] rfl ?_
        exact J375 l1 l2 l5 l4 l3 0 oA kc wo Ho h
    · refine j_iload_n C 1 rfl rfl dL_act_316 ?_
      refine j_bipush C (by decide) dL_act_317 ?_
      refine j_ishr C dL_act_319 ?_
      refine j_bipush C (by decide) dL_act_320 ?_
      obtain ⟨hkr36, h⟩ := G_of h
      obtain ⟨r36, hr36, h⟩ := Ob_of h
      refine q_L_77 C (u := []) (v := []) (wc := wo) (wc' := wo) (c_L_low l D _ _ (iShr l1 13) 8 r36 hr36) ⟨(Nat.le_of_ble_eq_true rfl), (Nat.le_of_ble_eq_true rfl)⟩ rfl rfl rfl (ww _) (ww _) rfl C.2.2.2.2.2.2.1 (Nat.le_of_ble_eq_true rfl) rfl rfl hkr36 (Nat.mul_le_mul_left 6 hkr36) dL_act_322 ?_
      refine j_iconst C dL_act_325 ?_
      refine j_isub C dL_act_326 ?_
      refine j_goto C 375 (by decide) dL_act_327 ?_
      refine j_lv [1, 2, 5] rfl ?_
      exact J375 l1 l2 l5 l4 l3 (r36 - 1) oA kc wo Ho h
  have J90 : ∀ (l1 : Int) (l2 : Int) (l3 : Int) (l4 : Int) (s0 : Int) (oA : AS) (kc : Nat) (wo : va_W) (Ho : Xw a g (cl + kc) oA wo), F_L_act_b90 l1 l2 l3 l4 s0 oA kc = some res → J p l e ({ frames := 9, cells := 1, slots := 6, locals := 168 } : Room) s m args below meth c D A 6 Q kc (6 * kc) wo 90 [(0, .ref (a 0)), (1, .int (vI l1)), (2, .int (vI l2)), (3, .int (vI l3)), (4, .int (vI l4))] [.int (vI s0)] := by
    intro l1 l2 l3 l4 s0 oA kc wo Ho h
    unfold F_L_act_b90 at h
    refine j_istore C [(5, .int (vI s0)), (0, .ref (a 0)), (1, .int (vI l1)), (2, .int (vI l2)), (3, .int (vI l3)), (4, .int (vI l4))] rfl (by decide) dL_act_90 ?_
    refine j_iload_n C 2 rfl rfl dL_act_92 ?_
    refine j_bipush C (by decide) dL_act_93 ?_
    obtain ⟨hkr38, h⟩ := G_of h
    obtain ⟨r38, hr38, h⟩ := Ob_of h
    refine q_L_77 C (u := []) (v := []) (wc := wo) (wc' := wo) (c_L_low l D _ _ l1 48 r38 hr38) ⟨(Nat.le_of_ble_eq_true rfl), (Nat.le_of_ble_eq_true rfl)⟩ rfl rfl rfl (ww _) (ww _) rfl C.2.2.2.2.2.2.1 (Nat.le_of_ble_eq_true rfl) rfl rfl hkr38 (Nat.mul_le_mul_left 6 hkr38) dL_act_95 ?_
    obtain ⟨gsw, h⟩ := G_of h
    by_cases c92 : r38 = 0
    · replace h := if_t h c92
      refine j_tsw C gsw (off := 198) 0 c92 296 (by decide) (by decide) (by decide) dL_act_98 ?_
      refine j_aload_n C 1 rfl rfl dL_act_296 ?_
      refine j_iload C 0 rfl dL_act_297 ?_
      obtain ⟨hkr42, h⟩ := G_of h
      obtain ⟨r42, hr42, h⟩ := Ob_of h
      refine J.eq (st' := [.int (vI (sx s0)), .ref (a 0)]) (by first | (simp only [sx_v]; done) | (simp only [sx_v]; rfl)) ?_
      refine j_callE C T (u := []) (wc := wo) (v := []) (wr_place l D a g hl (cl + kc) oA wo Ho (by omega) (sx s0) (sx_in _) r42 hr42) w387 w388 w0 w389 (n := 2) (by decide +kernel) ⟨(Nat.le_of_ble_eq_true rfl), (Nat.le_of_ble_eq_true rfl)⟩ rfl rfl rfl (ww _) C.2.2.2.2.2.2.1 (Nat.le_of_ble_eq_true rfl) rfl hkr42 (by show 6 * kc + 6 * 1 ≤ 6 * 1; omega) dL_act_299 (fun w43 hpw43 _ => ?_)
      refine j_cs (c1 := (kc + 1)) (s1 := 6 * (kc + 1)) (w1 := w43) rfl (by omega) (ww _) ?_
      have hqw43 : Xw a g (cl + (kc + 1)) r42.2 w43 := hpw43
      obtain ⟨hkc, h⟩ := G_of h
      cases h
      refine j_wide hkc (Nat.mul_le_mul_left 6 hkc) ?_
      exact RET w43 _ _ hqw43 hkc dL_act_302
    replace h := if_f h c92
    by_cases c93 : r38 = 1
    · replace h := if_t h c93
      refine j_tsw C gsw (off := 205) 1 c93 303 (by decide) (by decide) (by decide) dL_act_98 ?_
      refine j_aload_n C 1 rfl rfl dL_act_303 ?_
      obtain ⟨hkr44, h⟩ := G_of h
      obtain ⟨r44, hr44, h⟩ := Ob_of h
      refine j_callE C T (u := []) (wc := wo) (v := []) (wr_firing l D a g hl (cl + kc) oA wo Ho (by omega)  r44 hr44) w393 w394 w0 w395 (n := 1) (by decide +kernel) ⟨(Nat.le_of_ble_eq_true rfl), (Nat.le_of_ble_eq_true rfl)⟩ rfl rfl rfl (ww _) C.2.2.2.2.2.2.1 (Nat.le_of_ble_eq_true rfl) rfl hkr44 (by show 6 * kc + 6 * 1 ≤ 6 * 1; omega) dL_act_304 (fun w45 hpw45 _ => ?_)
      refine j_cs (c1 := (kc + 1)) (s1 := 6 * (kc + 1)) (w1 := w45) rfl (by omega) (ww _) ?_
      have hqw45 : Xw a g (cl + (kc + 1)) r44.2 w45 := hpw45
      obtain ⟨hkc, h⟩ := G_of h
      cases h
      refine j_wide hkc (Nat.mul_le_mul_left 6 hkc) ?_
      exact RET w45 _ _ hqw45 hkc dL_act_307
    replace h := if_f h c93
    by_cases c94 : 2 ≤ r38 ∧ r38 ≤ 11
    · replace h := if_t h c94
      have K : J p l e ({ frames := 9, cells := 1, slots := 6, locals := 168 } : Room) s m args below meth c D A 6 Q kc (6 * kc) wo 308 [(5, .int (vI s0)), (0, .ref (a 0)), (1, .int (vI l1)), (2, .int (vI l2)), (3, .int (vI l3)), (4, .int (vI l4))] [] := by
        refine j_lv [1, 2, 3, 4, 5, 0] rfl ?_
        exact J308 l1 l2 l3 l4 s0 oA kc wo Ho h
      rcases (show r38 = 2 ∨ r38 = 3 ∨ r38 = 4 ∨ r38 = 5 ∨ r38 = 6 ∨ r38 = 7 ∨ r38 = 8 ∨ r38 = 9 ∨ r38 = 10 ∨ r38 = 11 by omega) with e | e | e | e | e | e | e | e | e | e
      · exact j_tsw C gsw (off := 210) 2 e 308 (by decide) (by decide) (by decide) dL_act_98 K
      · exact j_tsw C gsw (off := 210) 3 e 308 (by decide) (by decide) (by decide) dL_act_98 K
      · exact j_tsw C gsw (off := 210) 4 e 308 (by decide) (by decide) (by decide) dL_act_98 K
      · exact j_tsw C gsw (off := 210) 5 e 308 (by decide) (by decide) (by decide) dL_act_98 K
      · exact j_tsw C gsw (off := 210) 6 e 308 (by decide) (by decide) (by decide) dL_act_98 K
      · exact j_tsw C gsw (off := 210) 7 e 308 (by decide) (by decide) (by decide) dL_act_98 K
      · exact j_tsw C gsw (off := 210) 8 e 308 (by decide) (by decide) (by decide) dL_act_98 K
      · exact j_tsw C gsw (off := 210) 9 e 308 (by decide) (by decide) (by decide) dL_act_98 K
      · exact j_tsw C gsw (off := 210) 10 e 308 (by decide) (by decide) (by decide) dL_act_98 K
      · exact j_tsw C gsw (off := 210) 11 e 308 (by decide) (by decide) (by decide) dL_act_98 K
    replace h := if_f h c94
    by_cases c95 : r38 = 12
    · replace h := if_t h c95
      refine j_tsw C gsw (off := 301) 12 c95 399 (by decide) (by decide) (by decide) dL_act_98 ?_
      refine j_aload_n C 1 rfl rfl dL_act_399 ?_
      refine j_iload C 5 rfl dL_act_400 ?_
      refine j_iload_n C 4 rfl rfl dL_act_402 ?_
      refine j_iconst C dL_act_403 ?_
      refine j_iload_n C 2 rfl rfl dL_act_404 ?_
      refine j_bipush C (by decide) dL_act_405 ?_
      refine j_ishr C dL_act_407 ?_
      refine j_iconst C dL_act_408 ?_
      obtain ⟨hkr46, h⟩ := G_of h
      obtain ⟨r46, hr46, h⟩ := Ob_of h
      refine q_L_77 C (u := []) (v := []) (wc := wo) (wc' := wo) (c_L_low l D _ _ (iShr l1 9) 5 r46 hr46) ⟨(Nat.le_of_ble_eq_true rfl), (Nat.le_of_ble_eq_true rfl)⟩ rfl rfl rfl (ww _) (ww _) rfl C.2.2.2.2.2.2.1 (Nat.le_of_ble_eq_true rfl) rfl rfl hkr46 (Nat.mul_le_mul_left 6 hkr46) dL_act_409 ?_
      refine j_iconst C dL_act_412 ?_
      refine j_idiv C h dL_act_413 (fun h => ?_)
      obtain ⟨hkr47, h⟩ := G_of h
      obtain ⟨r47, hr47, h⟩ := Ob_of h
      refine J.eq (st' := [.int (vI (sx (iDiv r46 4))), .int (vI 4), .int (vI (sx l3)), .int (vI (sx l4)), .ref (a 0)]) (by first | (simp only [sx_v]; done) | (simp only [sx_v]; rfl)) ?_
      refine j_callE C T (u := []) (wc := wo) (v := []) (wr_arc l D a g hl (cl + kc) oA wo Ho (by omega) (sx l4) (sx l3) 4 (sx (iDiv r46 4)) (sx_in _) (sx_in _) (by decide) (sx_in _) r47 hr47) w396 w397 w0 w398 (n := 5) (by decide +kernel) ⟨(Nat.le_of_ble_eq_true rfl), (Nat.le_of_ble_eq_true rfl)⟩ rfl rfl rfl (ww _) C.2.2.2.2.2.2.1 (Nat.le_of_ble_eq_true rfl) rfl hkr47 (by show 6 * kc + 6 * 1 ≤ 6 * 1; omega) dL_act_414 (fun w48 hpw48 _ => ?_)
      refine j_cs (c1 := (kc + 1)) (s1 := 6 * (kc + 1)) (w1 := w48) rfl (by omega) (ww _) ?_
      have hqw48 : Xw a g (cl + (kc + 1)) r47.2 w48 := hpw48
      obtain ⟨hkc, h⟩ := G_of h
      cases h
      refine j_wide hkc (Nat.mul_le_mul_left 6 hkc) ?_
      exact RET w48 _ _ hqw48 hkc dL_act_417
    replace h := if_f h c95
    by_cases c96 : r38 = 13
    · replace h := if_t h c96
      refine j_tsw C gsw (off := 320) 13 c96 418 (by decide) (by decide) (by decide) dL_act_98 ?_
      refine j_aload_n C 1 rfl rfl dL_act_418 ?_
      refine j_iload_n C 4 rfl rfl dL_act_419 ?_
      obtain ⟨hkr49, h⟩ := G_of h
      obtain ⟨r49, hr49, h⟩ := Ob_of h
      refine J.eq (st' := [.int (vI (sx l3)), .ref (a 0)]) (by first | (simp only [sx_v]; done) | (simp only [sx_v]; rfl)) ?_
      refine j_callE C T (u := []) (wc := wo) (v := []) (wr_tokens l D a g hl (cl + kc) oA wo Ho (by omega) (sx l3) (sx_in _) r49 hr49) w435 w436 w0 w437 (n := 2) (by decide +kernel) ⟨(Nat.le_of_ble_eq_true rfl), (Nat.le_of_ble_eq_true rfl)⟩ rfl rfl rfl (ww _) C.2.2.2.2.2.2.1 (Nat.le_of_ble_eq_true rfl) rfl hkr49 (by show 6 * kc + 6 * 1 ≤ 6 * 1; omega) dL_act_420 (fun w50 hpw50 _ => ?_)
      refine j_cs (c1 := (kc + 1)) (s1 := 6 * (kc + 1)) (w1 := w50) rfl (by omega) (ww _) ?_
      have hqw50 : Xw a g (cl + (kc + 1)) r49.2 w50 := hpw50
      obtain ⟨hkc, h⟩ := G_of h
      cases h
      refine j_wide hkc (Nat.mul_le_mul_left 6 hkc) ?_
      exact RET w50 _ _ hqw50 hkc dL_act_423
    replace h := if_f h c96
    by_cases c97 : r38 = 14
    · replace h := if_t h c97
      refine j_tsw C gsw (off := 326) 14 c97 424 (by decide) (by decide) (by decide) dL_act_98 ?_
      refine j_aload_n C 1 rfl rfl dL_act_424 ?_
      refine j_iload C 5 rfl dL_act_425 ?_
      obtain ⟨hkr51, h⟩ := G_of h
      obtain ⟨r51, hr51, h⟩ := Ob_of h
      refine J.eq (st' := [.int (vI (sx l4)), .ref (a 0)]) (by first | (simp only [sx_v]; done) | (simp only [sx_v]; rfl)) ?_
      refine j_callE C T (u := []) (wc := wo) (v := []) (wr_can l D a g hl (cl + kc) oA wo Ho (by omega) (sx l4) (sx_in _) r51 hr51) w445 w446 w0 w447 (n := 2) (by decide +kernel) ⟨(Nat.le_of_ble_eq_true rfl), (Nat.le_of_ble_eq_true rfl)⟩ rfl rfl rfl (ww _) C.2.2.2.2.2.2.1 (Nat.le_of_ble_eq_true rfl) rfl hkr51 (by show 6 * kc + 6 * 1 ≤ 6 * 1; omega) dL_act_427 (fun w52 hpw52 _ => ?_)
      refine j_cs (c1 := (kc + 1)) (s1 := 6 * (kc + 1)) (w1 := w52) rfl (by omega) (ww _) ?_
      have hqw52 : Xw a g (cl + (kc + 1)) r51.2 w52 := hpw52
      obtain ⟨hkc, h⟩ := G_of h
      cases h
      refine j_wide hkc (Nat.mul_le_mul_left 6 hkc) ?_
      exact RET w52 _ _ hqw52 hkc dL_act_430
    replace h := if_f h c97
    by_cases c98 : 15 ≤ r38 ∧ r38 ≤ 19
    · replace h := if_t h c98
      have K : J p l e ({ frames := 9, cells := 1, slots := 6, locals := 168 } : Room) s m args below meth c D A 6 Q kc (6 * kc) wo 431 [(5, .int (vI s0)), (0, .ref (a 0)), (1, .int (vI l1)), (2, .int (vI l2)), (3, .int (vI l3)), (4, .int (vI l4))] [] := by
        refine j_lv [1, 5] rfl ?_
        exact J431 l4 oA kc wo Ho h
      rcases (show r38 = 15 ∨ r38 = 16 ∨ r38 = 17 ∨ r38 = 18 ∨ r38 = 19 by omega) with e | e | e | e | e
      · exact j_tsw C gsw (off := 333) 15 e 431 (by decide) (by decide) (by decide) dL_act_98 K
      · exact j_tsw C gsw (off := 333) 16 e 431 (by decide) (by decide) (by decide) dL_act_98 K
      · exact j_tsw C gsw (off := 333) 17 e 431 (by decide) (by decide) (by decide) dL_act_98 K
      · exact j_tsw C gsw (off := 333) 18 e 431 (by decide) (by decide) (by decide) dL_act_98 K
      · exact j_tsw C gsw (off := 333) 19 e 431 (by decide) (by decide) (by decide) dL_act_98 K
    replace h := if_f h c98
    by_cases c99 : 20 ≤ r38 ∧ r38 ≤ 21
    · replace h := if_t h c99
      have K : J p l e ({ frames := 9, cells := 1, slots := 6, locals := 168 } : Room) s m args below meth c D A 6 Q kc (6 * kc) wo 438 [(5, .int (vI s0)), (0, .ref (a 0)), (1, .int (vI l1)), (2, .int (vI l2)), (3, .int (vI l3)), (4, .int (vI l4))] [] := by
        refine j_lv [1, 2, 3, 0] rfl ?_
        exact J438 l1 l2 s0 oA kc wo Ho h
      rcases (show r38 = 20 ∨ r38 = 21 by omega) with e | e
      · exact j_tsw C gsw (off := 340) 20 e 438 (by decide) (by decide) (by decide) dL_act_98 K
      · exact j_tsw C gsw (off := 340) 21 e 438 (by decide) (by decide) (by decide) dL_act_98 K
    replace h := if_f h c99
    by_cases c100 : r38 = 22
    · replace h := if_t h c100
      refine j_tsw C gsw (off := 362) 22 c100 460 (by decide) (by decide) (by decide) dL_act_98 ?_
      refine j_aload_n C 1 rfl rfl dL_act_460 ?_
      refine j_iload_n C 3 rfl rfl dL_act_461 ?_
      refine j_if_eq C h 470 (by decide) dL_act_462 (fun c54 h => ?_) (fun c54 h => ?_)
      · refine j_iload_n C 2 rfl rfl dL_act_470 ?_
        refine j_bipush C (by decide) dL_act_471 ?_
        refine j_ishr C dL_act_473 ?_
        refine j_bipush C (by decide) dL_act_474 ?_
        obtain ⟨hkr53, h⟩ := G_of h
        obtain ⟨r53, hr53, h⟩ := Ob_of h
        refine q_L_77 C (u := []) (v := []) (wc := wo) (wc' := wo) (c_L_low l D _ _ (iShr l1 9) 12 r53 hr53) ⟨(Nat.le_of_ble_eq_true rfl), (Nat.le_of_ble_eq_true rfl)⟩ rfl rfl rfl (ww _) (ww _) rfl C.2.2.2.2.2.2.1 (Nat.le_of_ble_eq_true rfl) rfl rfl hkr53 (Nat.mul_le_mul_left 6 hkr53) dL_act_476 ?_
        refine j_lv [4] rfl ?_
        exact J479 l3 r53 oA kc wo Ho h
      · refine j_iload C 0 rfl dL_act_465 ?_
        refine j_goto C 479 (by decide) dL_act_467 ?_
        refine j_lv [4] rfl ?_
        exact J479 l3 s0 oA kc wo Ho h
    replace h := if_f h c100
    by_cases c101 : r38 = 23
    · replace h := if_t h c101
      refine j_tsw C gsw (off := 386) 23 c101 484 (by decide) (by decide) (by decide) dL_act_98 ?_
      refine j_aload_n C 1 rfl rfl dL_act_484 ?_
      refine j_iload_n C 4 rfl rfl dL_act_485 ?_
      obtain ⟨hkr55, h⟩ := G_of h
      obtain ⟨r55, hr55, h⟩ := Ob_of h
      refine J.eq (st' := [.int (vI (sx l3)), .ref (a 0)]) (by first | (simp only [sx_v]; done) | (simp only [sx_v]; rfl)) ?_
      refine j_callE C T (u := []) (wc := wo) (v := []) (wr_most l D a g hl (cl + kc) oA wo Ho (by omega) (sx l3) (sx_in _) r55 hr55) w545 w546 w0 w547 (n := 2) (by decide +kernel) ⟨(Nat.le_of_ble_eq_true rfl), (Nat.le_of_ble_eq_true rfl)⟩ rfl rfl rfl (ww _) C.2.2.2.2.2.2.1 (Nat.le_of_ble_eq_true rfl) rfl hkr55 (by show 6 * kc + 6 * 1 ≤ 6 * 1; omega) dL_act_486 (fun w56 hpw56 _ => ?_)
      refine j_cs (c1 := (kc + 1)) (s1 := 6 * (kc + 1)) (w1 := w56) rfl (by omega) (ww _) ?_
      have hqw56 : Xw a g (cl + (kc + 1)) r55.2 w56 := hpw56
      obtain ⟨hkc, h⟩ := G_of h
      cases h
      refine j_wide hkc (Nat.mul_le_mul_left 6 hkc) ?_
      exact RET w56 _ _ hqw56 hkc dL_act_489
    replace h := if_f h c101
    by_cases c102 : r38 = 24
    · replace h := if_t h c102
      refine j_tsw C gsw (off := 392) 24 c102 490 (by decide) (by decide) (by decide) dL_act_98 ?_
      refine j_aload_n C 1 rfl rfl dL_act_490 ?_
      refine j_iload C 5 rfl dL_act_491 ?_
      obtain ⟨hkr57, h⟩ := G_of h
      obtain ⟨r57, hr57, h⟩ := Ob_of h
      refine J.eq (st' := [.int (vI (sx l4)), .ref (a 0)]) (by first | (simp only [sx_v]; done) | (simp only [sx_v]; rfl)) ?_
      refine j_callE C T (u := []) (wc := wo) (v := []) (wr_level l D a g hl (cl + kc) oA wo Ho (by omega) (sx l4) (sx_in _) r57 hr57) w558 w559 w0 w560 (n := 2) (by decide +kernel) ⟨(Nat.le_of_ble_eq_true rfl), (Nat.le_of_ble_eq_true rfl)⟩ rfl rfl rfl (ww _) C.2.2.2.2.2.2.1 (Nat.le_of_ble_eq_true rfl) rfl hkr57 (by show 6 * kc + 6 * 1 ≤ 6 * 1; omega) dL_act_493 (fun w58 hpw58 _ => ?_)
      refine j_cs (c1 := (kc + 1)) (s1 := 6 * (kc + 1)) (w1 := w58) rfl (by omega) (ww _) ?_
      have hqw58 : Xw a g (cl + (kc + 1)) r57.2 w58 := hpw58
      obtain ⟨hkc, h⟩ := G_of h
      cases h
      refine j_wide hkc (Nat.mul_le_mul_left 6 hkc) ?_
      exact RET w58 _ _ hqw58 hkc dL_act_496
    replace h := if_f h c102
    by_cases c103 : r38 = 25
    · replace h := if_t h c103
      refine j_tsw C gsw (off := 399) 25 c103 497 (by decide) (by decide) (by decide) dL_act_98 ?_
      refine j_aload_n C 1 rfl rfl dL_act_497 ?_
      refine j_iload_n C 4 rfl rfl dL_act_498 ?_
      refine j_iload_n C 3 rfl rfl dL_act_499 ?_
      refine j_if_eq C h 508 (by decide) dL_act_500 (fun c60 h => ?_) (fun c60 h => ?_)
      · refine j_iload_n C 2 rfl rfl dL_act_508 ?_
        refine j_bipush C (by decide) dL_act_509 ?_
        refine j_ishr C dL_act_511 ?_
        refine j_bipush C (by decide) dL_act_512 ?_
        obtain ⟨hkr59, h⟩ := G_of h
        obtain ⟨r59, hr59, h⟩ := Ob_of h
        refine q_L_77 C (u := []) (v := []) (wc := wo) (wc' := wo) (c_L_low l D _ _ (iShr l1 9) 8 r59 hr59) ⟨(Nat.le_of_ble_eq_true rfl), (Nat.le_of_ble_eq_true rfl)⟩ rfl rfl rfl (ww _) (ww _) rfl C.2.2.2.2.2.2.1 (Nat.le_of_ble_eq_true rfl) rfl rfl hkr59 (Nat.mul_le_mul_left 6 hkr59) dL_act_514 ?_
        refine j_lv [] rfl ?_
        exact J517 l3 r59 oA kc wo Ho h
      · refine j_iload C 0 rfl dL_act_503 ?_
        refine j_goto C 517 (by decide) dL_act_505 ?_
        refine j_lv [] rfl ?_
        exact J517 l3 s0 oA kc wo Ho h
    replace h := if_f h c103
    by_cases c104 : r38 = 26
    · replace h := if_t h c104
      refine j_tsw C gsw (off := 423) 26 c104 521 (by decide) (by decide) (by decide) dL_act_98 ?_
      refine j_aload_n C 1 rfl rfl dL_act_521 ?_
      refine j_iload_n C 4 rfl rfl dL_act_522 ?_
      refine j_iload_n C 2 rfl rfl dL_act_523 ?_
      refine j_bipush C (by decide) dL_act_524 ?_
      refine j_ishr C dL_act_526 ?_
      refine j_bipush C (by decide) dL_act_527 ?_
      obtain ⟨hkr61, h⟩ := G_of h
      obtain ⟨r61, hr61, h⟩ := Ob_of h
      refine q_L_77 C (u := []) (v := []) (wc := wo) (wc' := wo) (c_L_low l D _ _ (iShr l1 9) 8 r61 hr61) ⟨(Nat.le_of_ble_eq_true rfl), (Nat.le_of_ble_eq_true rfl)⟩ rfl rfl rfl (ww _) (ww _) rfl C.2.2.2.2.2.2.1 (Nat.le_of_ble_eq_true rfl) rfl rfl hkr61 (Nat.mul_le_mul_left 6 hkr61) dL_act_529 ?_
      refine j_iload_n C 3 rfl rfl dL_act_532 ?_
      refine j_if_eq C h 541 (by decide) dL_act_533 (fun c63 h => ?_) (fun c63 h => ?_)
      · refine j_iload_n C 2 rfl rfl dL_act_541 ?_
        refine j_bipush C (by decide) dL_act_542 ?_
        refine j_ishr C dL_act_544 ?_
        refine j_iconst C dL_act_545 ?_
        obtain ⟨hkr62, h⟩ := G_of h
        obtain ⟨r62, hr62, h⟩ := Ob_of h
        refine q_L_77 C (u := []) (v := []) (wc := wo) (wc' := wo) (c_L_low l D _ _ (iShr l1 13) 4 r62 hr62) ⟨(Nat.le_of_ble_eq_true rfl), (Nat.le_of_ble_eq_true rfl)⟩ rfl rfl rfl (ww _) (ww _) rfl C.2.2.2.2.2.2.1 (Nat.le_of_ble_eq_true rfl) rfl rfl hkr62 (Nat.mul_le_mul_left 6 hkr62) dL_act_546 ?_
        refine j_lv [] rfl ?_
        exact J549 l3 r61 r62 oA kc wo Ho h
      · refine j_iload C 0 rfl dL_act_536 ?_
        refine j_goto C 549 (by decide) dL_act_538 ?_
        refine j_lv [] rfl ?_
        exact J549 l3 r61 s0 oA kc wo Ho h
    replace h := if_f h c104
    by_cases c105 : r38 = 27
    · replace h := if_t h c105
      refine j_tsw C gsw (off := 455) 27 c105 553 (by decide) (by decide) (by decide) dL_act_98 ?_
      refine j_aload_n C 1 rfl rfl dL_act_553 ?_
      obtain ⟨hkr64, h⟩ := G_of h
      obtain ⟨r64, hr64, h⟩ := Ob_of h
      refine dj_rows C (u := []) (wc := wo) (v := []) Ho (by omega)  hr64 (ww _) C.2.2.2.2.2.2.1 (Nat.le_of_ble_eq_true rfl) (Nat.le_of_ble_eq_true rfl) (Nat.le_of_ble_eq_true rfl) hkr64 (by show 6 * kc + 6 * 1 ≤ 6 * 1; omega) dL_act_554 (fun w65 hpw65 _ => ?_)
      refine j_cs (c1 := (kc + 1)) (s1 := 6 * (kc + 1)) (w1 := w65) rfl (by omega) (ww _) ?_
      have hqw65 : Xw a g (cl + (kc + 1)) r64.2 w65 := hpw65
      obtain ⟨hkc, h⟩ := G_of h
      cases h
      refine j_wide hkc (Nat.mul_le_mul_left 6 hkc) ?_
      exact RET w65 _ _ hqw65 hkc dL_act_557
    replace h := if_f h c105
    by_cases c106 : r38 = 28
    · replace h := if_t h c106
      refine j_tsw C gsw (off := 460) 28 c106 558 (by decide) (by decide) (by decide) dL_act_98 ?_
      refine j_aload_n C 1 rfl rfl dL_act_558 ?_
      refine j_iload_n C 3 rfl rfl dL_act_559 ?_
      refine j_if_eq C h 568 (by decide) dL_act_560 (fun c67 h => ?_) (fun c67 h => ?_)
      · refine j_iload_n C 2 rfl rfl dL_act_568 ?_
        refine j_bipush C (by decide) dL_act_569 ?_
        refine j_ishr C dL_act_571 ?_
        refine j_iconst C dL_act_572 ?_
        obtain ⟨hkr66, h⟩ := G_of h
        obtain ⟨r66, hr66, h⟩ := Ob_of h
        refine q_L_77 C (u := []) (v := []) (wc := wo) (wc' := wo) (c_L_low l D _ _ (iShr l1 9) 3 r66 hr66) ⟨(Nat.le_of_ble_eq_true rfl), (Nat.le_of_ble_eq_true rfl)⟩ rfl rfl rfl (ww _) (ww _) rfl C.2.2.2.2.2.2.1 (Nat.le_of_ble_eq_true rfl) rfl rfl hkr66 (Nat.mul_le_mul_left 6 hkr66) dL_act_573 ?_
        refine j_lv [4] rfl ?_
        exact J576 l3 r66 oA kc wo Ho h
      · refine j_iload C 0 rfl dL_act_563 ?_
        refine j_goto C 576 (by decide) dL_act_565 ?_
        refine j_lv [4] rfl ?_
        exact J576 l3 s0 oA kc wo Ho h
    replace h := if_f h c106
    by_cases c107 : r38 = 29
    · replace h := if_t h c107
      refine j_tsw C gsw (off := 483) 29 c107 581 (by decide) (by decide) (by decide) dL_act_98 ?_
      refine j_aload_n C 1 rfl rfl dL_act_581 ?_
      refine j_iload_n C 4 rfl rfl dL_act_582 ?_
      obtain ⟨hkr68, h⟩ := G_of h
      obtain ⟨r68, hr68, h⟩ := Ob_of h
      refine J.eq (st' := [.int (vI (sx l3)), .ref (a 0)]) (by first | (simp only [sx_v]; done) | (simp only [sx_v]; rfl)) ?_
      refine j_callE C T (u := []) (wc := wo) (v := []) (wr_mostByRows l D a g hl (cl + kc) oA wo Ho (by omega) (sx l3) (sx_in _) r68 hr68) w661 w662 w0 w663 (n := 2) (by decide +kernel) ⟨(Nat.le_of_ble_eq_true rfl), (Nat.le_of_ble_eq_true rfl)⟩ rfl rfl rfl (ww _) C.2.2.2.2.2.2.1 (Nat.le_of_ble_eq_true rfl) rfl hkr68 (by show 6 * kc + 6 * 1 ≤ 6 * 1; omega) dL_act_583 (fun w69 hpw69 _ => ?_)
      refine j_cs (c1 := (kc + 1)) (s1 := 6 * (kc + 1)) (w1 := w69) rfl (by omega) (ww _) ?_
      have hqw69 : Xw a g (cl + (kc + 1)) r68.2 w69 := hpw69
      obtain ⟨hkc, h⟩ := G_of h
      cases h
      refine j_wide hkc (Nat.mul_le_mul_left 6 hkc) ?_
      exact RET w69 _ _ hqw69 hkc dL_act_586
    replace h := if_f h c107
    by_cases c108 : r38 = 30
    · replace h := if_t h c108
      refine j_tsw C gsw (off := 489) 30 c108 587 (by decide) (by decide) (by decide) dL_act_98 ?_
      refine j_aload_n C 1 rfl rfl dL_act_587 ?_
      obtain ⟨hkr70, h⟩ := G_of h
      obtain ⟨r70, hr70, h⟩ := Ob_of h
      refine dj_rounds C (u := []) (wc := wo) (v := []) Ho (by omega)  hr70 (ww _) C.2.2.2.2.2.2.1 (Nat.le_of_ble_eq_true rfl) (Nat.le_of_ble_eq_true rfl) (Nat.le_of_ble_eq_true rfl) hkr70 (by show 6 * kc + 6 * 1 ≤ 6 * 1; omega) dL_act_588 (fun w71 hpw71 _ => ?_)
      refine j_cs (c1 := (kc + 1)) (s1 := 6 * (kc + 1)) (w1 := w71) rfl (by omega) (ww _) ?_
      have hqw71 : Xw a g (cl + (kc + 1)) r70.2 w71 := hpw71
      obtain ⟨hkc, h⟩ := G_of h
      cases h
      refine j_wide hkc (Nat.mul_le_mul_left 6 hkc) ?_
      exact RET w71 _ _ hqw71 hkc dL_act_591
    replace h := if_f h c108
    by_cases c109 : r38 = 31
    · replace h := if_t h c109
      refine j_tsw C gsw (off := 494) 31 c109 592 (by decide) (by decide) (by decide) dL_act_98 ?_
      refine j_aload_n C 1 rfl rfl dL_act_592 ?_
      refine j_iload_n C 3 rfl rfl dL_act_593 ?_
      refine j_if_eq C h 602 (by decide) dL_act_594 (fun c73 h => ?_) (fun c73 h => ?_)
      · refine j_iload_n C 2 rfl rfl dL_act_602 ?_
        refine j_bipush C (by decide) dL_act_603 ?_
        refine j_ishr C dL_act_605 ?_
        refine j_iconst C dL_act_606 ?_
        obtain ⟨hkr72, h⟩ := G_of h
        obtain ⟨r72, hr72, h⟩ := Ob_of h
        refine q_L_77 C (u := []) (v := []) (wc := wo) (wc' := wo) (c_L_low l D _ _ (iShr l1 9) 2 r72 hr72) ⟨(Nat.le_of_ble_eq_true rfl), (Nat.le_of_ble_eq_true rfl)⟩ rfl rfl rfl (ww _) (ww _) rfl C.2.2.2.2.2.2.1 (Nat.le_of_ble_eq_true rfl) rfl rfl hkr72 (Nat.mul_le_mul_left 6 hkr72) dL_act_607 ?_
        refine j_lv [5] rfl ?_
        exact J610 l4 r72 oA kc wo Ho h
      · refine j_iload C 0 rfl dL_act_597 ?_
        refine j_goto C 610 (by decide) dL_act_599 ?_
        refine j_lv [5] rfl ?_
        exact J610 l4 s0 oA kc wo Ho h
    replace h := if_f h c109
    by_cases c110 : r38 = 32
    · replace h := if_t h c110
      refine j_tsw C gsw (off := 518) 32 c110 616 (by decide) (by decide) (by decide) dL_act_98 ?_
      refine j_aload_n C 1 rfl rfl dL_act_616 ?_
      obtain ⟨hkr74, h⟩ := G_of h
      obtain ⟨r74, hr74, h⟩ := Ob_of h
      refine dj_keeps C (u := []) (wc := wo) (v := []) Ho (by omega)  hr74 (ww _) C.2.2.2.2.2.2.1 (Nat.le_of_ble_eq_true rfl) (Nat.le_of_ble_eq_true rfl) (Nat.le_of_ble_eq_true rfl) hkr74 (by show 6 * kc + 6 * 1 ≤ 6 * 1; omega) dL_act_617 (fun w75 hpw75 _ => ?_)
      refine j_cs (c1 := (kc + 1)) (s1 := 6 * (kc + 1)) (w1 := w75) rfl (by omega) (ww _) ?_
      have hqw75 : Xw a g (cl + (kc + 1)) r74.2 w75 := hpw75
      refine j_if_eq C h 627 (by decide) dL_act_620 (fun c76 h => ?_) (fun c76 h => ?_)
      · refine j_iconst C dL_act_627 ?_
        obtain ⟨hkc, h⟩ := G_of h
        cases h
        refine j_wide hkc (Nat.mul_le_mul_left 6 hkc) ?_
        exact RET w75 _ _ hqw75 hkc dL_act_628
      · refine j_iconst C dL_act_623 ?_
        refine j_goto C 628 (by decide) dL_act_624 ?_
        obtain ⟨hkc, h⟩ := G_of h
        cases h
        refine j_wide hkc (Nat.mul_le_mul_left 6 hkc) ?_
        exact RET w75 _ _ hqw75 hkc dL_act_628
    replace h := if_f h c110
    by_cases c111 : r38 = 33
    · replace h := if_t h c111
      refine j_tsw C gsw (off := 531) 33 c111 629 (by decide) (by decide) (by decide) dL_act_98 ?_
      refine j_aload_n C 1 rfl rfl dL_act_629 ?_
      obtain ⟨hkr77, h⟩ := G_of h
      obtain ⟨r77, hr77, h⟩ := Ob_of h
      refine dj_siphons C (u := []) (wc := wo) (v := []) Ho (by omega)  hr77 (ww _) C.2.2.2.2.2.2.1 (Nat.le_of_ble_eq_true rfl) (Nat.le_of_ble_eq_true rfl) (Nat.le_of_ble_eq_true rfl) hkr77 (by show 6 * kc + 6 * 1 ≤ 6 * 1; omega) dL_act_630 (fun w78 hpw78 _ => ?_)
      refine j_cs (c1 := (kc + 1)) (s1 := 6 * (kc + 1)) (w1 := w78) rfl (by omega) (ww _) ?_
      have hqw78 : Xw a g (cl + (kc + 1)) r77.2 w78 := hpw78
      obtain ⟨hkc, h⟩ := G_of h
      cases h
      refine j_wide hkc (Nat.mul_le_mul_left 6 hkc) ?_
      exact RET w78 _ _ hqw78 hkc dL_act_633
    replace h := if_f h c111
    by_cases c112 : r38 = 34
    · replace h := if_t h c112
      refine j_tsw C gsw (off := 536) 34 c112 634 (by decide) (by decide) (by decide) dL_act_98 ?_
      refine j_aload_n C 1 rfl rfl dL_act_634 ?_
      refine j_iload_n C 3 rfl rfl dL_act_635 ?_
      refine j_if_eq C h 644 (by decide) dL_act_636 (fun c80 h => ?_) (fun c80 h => ?_)
      · refine j_iload_n C 2 rfl rfl dL_act_644 ?_
        refine j_bipush C (by decide) dL_act_645 ?_
        refine j_ishr C dL_act_647 ?_
        refine j_iconst C dL_act_648 ?_
        obtain ⟨hkr79, h⟩ := G_of h
        obtain ⟨r79, hr79, h⟩ := Ob_of h
        refine q_L_77 C (u := []) (v := []) (wc := wo) (wc' := wo) (c_L_low l D _ _ (iShr l1 9) 2 r79 hr79) ⟨(Nat.le_of_ble_eq_true rfl), (Nat.le_of_ble_eq_true rfl)⟩ rfl rfl rfl (ww _) (ww _) rfl C.2.2.2.2.2.2.1 (Nat.le_of_ble_eq_true rfl) rfl rfl hkr79 (Nat.mul_le_mul_left 6 hkr79) dL_act_649 ?_
        refine j_lv [] rfl ?_
        exact J652 r79 oA kc wo Ho h
      · refine j_iload C 0 rfl dL_act_639 ?_
        refine j_goto C 652 (by decide) dL_act_641 ?_
        refine j_lv [] rfl ?_
        exact J652 s0 oA kc wo Ho h
    replace h := if_f h c112
    by_cases c113 : r38 = 35
    · replace h := if_t h c113
      refine j_tsw C gsw (off := 558) 35 c113 656 (by decide) (by decide) (by decide) dL_act_98 ?_
      refine j_aload_n C 1 rfl rfl dL_act_656 ?_
      refine j_iload_n C 3 rfl rfl dL_act_657 ?_
      refine j_if_eq C h 666 (by decide) dL_act_658 (fun c82 h => ?_) (fun c82 h => ?_)
      · refine j_iload_n C 2 rfl rfl dL_act_666 ?_
        refine j_bipush C (by decide) dL_act_667 ?_
        refine j_ishr C dL_act_669 ?_
        refine j_bipush C (by decide) dL_act_670 ?_
        obtain ⟨hkr81, h⟩ := G_of h
        obtain ⟨r81, hr81, h⟩ := Ob_of h
        refine q_L_77 C (u := []) (v := []) (wc := wo) (wc' := wo) (c_L_low l D _ _ (iShr l1 9) 8 r81 hr81) ⟨(Nat.le_of_ble_eq_true rfl), (Nat.le_of_ble_eq_true rfl)⟩ rfl rfl rfl (ww _) (ww _) rfl C.2.2.2.2.2.2.1 (Nat.le_of_ble_eq_true rfl) rfl rfl hkr81 (Nat.mul_le_mul_left 6 hkr81) dL_act_672 ?_
        refine j_lv [] rfl ?_
        exact J675 r81 oA kc wo Ho h
      · refine j_iload C 0 rfl dL_act_661 ?_
        refine j_goto C 675 (by decide) dL_act_663 ?_
        refine j_lv [] rfl ?_
        exact J675 s0 oA kc wo Ho h
    replace h := if_f h c113
    by_cases c114 : r38 = 36
    · replace h := if_t h c114
      refine j_tsw C gsw (off := 581) 36 c114 679 (by decide) (by decide) (by decide) dL_act_98 ?_
      refine j_aload_n C 1 rfl rfl dL_act_679 ?_
      obtain ⟨hkr83, h⟩ := G_of h
      obtain ⟨r83, hr83, h⟩ := Ob_of h
      refine dj_isPromising C (u := []) (wc := wo) (v := []) Ho (by omega)  hr83 (ww _) C.2.2.2.2.2.2.1 (Nat.le_of_ble_eq_true rfl) (Nat.le_of_ble_eq_true rfl) (Nat.le_of_ble_eq_true rfl) hkr83 (by show 6 * kc + 6 * 1 ≤ 6 * 1; omega) dL_act_680 (fun w84 hpw84 _ => ?_)
      refine j_cs (c1 := (kc + 1)) (s1 := 6 * (kc + 1)) (w1 := w84) rfl (by omega) (ww _) ?_
      have hqw84 : Xw a g (cl + (kc + 1)) r83.2 w84 := hpw84
      refine j_if_eq C h 690 (by decide) dL_act_683 (fun c85 h => ?_) (fun c85 h => ?_)
      · refine j_iconst C dL_act_690 ?_
        obtain ⟨hkc, h⟩ := G_of h
        cases h
        refine j_wide hkc (Nat.mul_le_mul_left 6 hkc) ?_
        exact RET w84 _ _ hqw84 hkc dL_act_691
      · refine j_iconst C dL_act_686 ?_
        refine j_goto C 691 (by decide) dL_act_687 ?_
        obtain ⟨hkc, h⟩ := G_of h
        cases h
        refine j_wide hkc (Nat.mul_le_mul_left 6 hkc) ?_
        exact RET w84 _ _ hqw84 hkc dL_act_691
    replace h := if_f h c114
    by_cases c115 : 37 ≤ r38 ∧ r38 ≤ 40
    · replace h := if_t h c115
      have K : J p l e ({ frames := 9, cells := 1, slots := 6, locals := 168 } : Room) s m args below meth c D A 6 Q kc (6 * kc) wo 692 [(5, .int (vI s0)), (0, .ref (a 0)), (1, .int (vI l1)), (2, .int (vI l2)), (3, .int (vI l3)), (4, .int (vI l4))] [] := by
        refine j_lv [1, 5] rfl ?_
        exact J692 l4 oA kc wo Ho h
      rcases (show r38 = 37 ∨ r38 = 38 ∨ r38 = 39 ∨ r38 = 40 by omega) with e | e | e | e
      · exact j_tsw C gsw (off := 594) 37 e 692 (by decide) (by decide) (by decide) dL_act_98 K
      · exact j_tsw C gsw (off := 594) 38 e 692 (by decide) (by decide) (by decide) dL_act_98 K
      · exact j_tsw C gsw (off := 594) 39 e 692 (by decide) (by decide) (by decide) dL_act_98 K
      · exact j_tsw C gsw (off := 594) 40 e 692 (by decide) (by decide) (by decide) dL_act_98 K
    replace h := if_f h c115
    by_cases c116 : r38 = 41
    · replace h := if_t h c116
      refine j_tsw C gsw (off := 601) 41 c116 699 (by decide) (by decide) (by decide) dL_act_98 ?_
      refine j_iload_n C 2 rfl rfl dL_act_699 ?_
      refine j_bipush C (by decide) dL_act_700 ?_
      refine j_ishr C dL_act_702 ?_
      refine j_iconst C dL_act_703 ?_
      obtain ⟨hkr86, h⟩ := G_of h
      obtain ⟨r86, hr86, h⟩ := Ob_of h
      refine q_L_77 C (u := []) (v := []) (wc := wo) (wc' := wo) (c_L_low l D _ _ (iShr l1 9) 4 r86 hr86) ⟨(Nat.le_of_ble_eq_true rfl), (Nat.le_of_ble_eq_true rfl)⟩ rfl rfl rfl (ww _) (ww _) rfl C.2.2.2.2.2.2.1 (Nat.le_of_ble_eq_true rfl) rfl rfl hkr86 (Nat.mul_le_mul_left 6 hkr86) dL_act_704 ?_
      refine j_if_ne C h 717 (by decide) dL_act_707 (fun c91 h => ?_) (fun c91 h => ?_)
      · refine j_aload_n C 1 rfl rfl dL_act_717 ?_
        obtain ⟨hkr87, h⟩ := G_of h
        obtain ⟨r87, hr87, h⟩ := Ob_of h
        refine dj_goes C (u := []) (wc := wo) (v := []) Ho (by omega)  hr87 (ww _) C.2.2.2.2.2.2.1 (Nat.le_of_ble_eq_true rfl) (Nat.le_of_ble_eq_true rfl) (Nat.le_of_ble_eq_true rfl) hkr87 (by show 6 * kc + 6 * 1 ≤ 6 * 1; omega) dL_act_718 (fun w88 hpw88 _ => ?_)
        refine j_cs (c1 := (kc + 1)) (s1 := 6 * (kc + 1)) (w1 := w88) rfl (by omega) (ww _) ?_
        have hqw88 : Xw a g (cl + (kc + 1)) r87.2 w88 := hpw88
        obtain ⟨hkc, h⟩ := G_of h
        cases h
        refine j_wide hkc (Nat.mul_le_mul_left 6 hkc) ?_
        exact RET w88 _ _ hqw88 hkc dL_act_721
      · refine j_aload_n C 1 rfl rfl dL_act_710 ?_
        obtain ⟨hkr89, h⟩ := G_of h
        obtain ⟨r89, hr89, h⟩ := Ob_of h
        refine dj_blank C (u := []) (wc := wo) (v := []) Ho (by omega)  hr89 (ww _) C.2.2.2.2.2.2.1 (Nat.le_of_ble_eq_true rfl) (Nat.le_of_ble_eq_true rfl) (Nat.le_of_ble_eq_true rfl) hkr89 (by show 6 * kc + 6 * 1 ≤ 6 * 1; omega) dL_act_711 (fun w90 hpw90 _ => ?_)
        refine j_cs (c1 := (kc + 1)) (s1 := 6 * (kc + 1)) (w1 := w90) rfl (by omega) (ww _) ?_
        have hqw90 : Xw a g (cl + (kc + 1)) r89.2 w90 := hpw90
        refine j_goto C 721 (by decide) dL_act_714 ?_
        obtain ⟨hkc, h⟩ := G_of h
        cases h
        refine j_wide hkc (Nat.mul_le_mul_left 6 hkc) ?_
        exact RET w90 _ _ hqw90 hkc dL_act_721
    replace h := if_f h c116
    by_cases c117 : 42 ≤ r38 ∧ r38 ≤ 43
    · replace h := if_t h c117
      have K : J p l e ({ frames := 9, cells := 1, slots := 6, locals := 168 } : Room) s m args below meth c D A 6 Q kc (6 * kc) wo 722 [(5, .int (vI s0)), (0, .ref (a 0)), (1, .int (vI l1)), (2, .int (vI l2)), (3, .int (vI l3)), (4, .int (vI l4))] [] := by
        refine j_lv [1] rfl ?_
        exact J722 oA kc wo Ho h
      rcases (show r38 = 42 ∨ r38 = 43 by omega) with e | e
      · exact j_tsw C gsw (off := 624) 42 e 722 (by decide) (by decide) (by decide) dL_act_98 K
      · exact j_tsw C gsw (off := 624) 43 e 722 (by decide) (by decide) (by decide) dL_act_98 K
    replace h := if_f h c117
    by_cases c118 : 44 ≤ r38 ∧ r38 ≤ 45
    · replace h := if_t h c118
      have K : J p l e ({ frames := 9, cells := 1, slots := 6, locals := 168 } : Room) s m args below meth c D A 6 Q kc (6 * kc) wo 727 [(5, .int (vI s0)), (0, .ref (a 0)), (1, .int (vI l1)), (2, .int (vI l2)), (3, .int (vI l3)), (4, .int (vI l4))] [] := by
        refine j_lv [1] rfl ?_
        exact J727 oA kc wo Ho h
      rcases (show r38 = 44 ∨ r38 = 45 by omega) with e | e
      · exact j_tsw C gsw (off := 629) 44 e 727 (by decide) (by decide) (by decide) dL_act_98 K
      · exact j_tsw C gsw (off := 629) 45 e 727 (by decide) (by decide) (by decide) dL_act_98 K
    replace h := if_f h c118
    refine j_tswd C gsw (by omega) 732 (by decide) dL_act_98 ?_
    refine j_aload_n C 1 rfl rfl dL_act_732 ?_
    refine j_iload_n C 2 rfl rfl dL_act_733 ?_
    refine j_bipush C (by decide) dL_act_734 ?_
    refine j_ishr C dL_act_736 ?_
    refine j_iconst C dL_act_737 ?_
    obtain ⟨hkr39, h⟩ := G_of h
    obtain ⟨r39, hr39, h⟩ := Ob_of h
    refine q_L_77 C (u := []) (v := []) (wc := wo) (wc' := wo) (c_L_low l D _ _ (iShr l1 9) 4 r39 hr39) ⟨(Nat.le_of_ble_eq_true rfl), (Nat.le_of_ble_eq_true rfl)⟩ rfl rfl rfl (ww _) (ww _) rfl C.2.2.2.2.2.2.1 (Nat.le_of_ble_eq_true rfl) rfl rfl hkr39 (Nat.mul_le_mul_left 6 hkr39) dL_act_738 ?_
    obtain ⟨hkr40, h⟩ := G_of h
    obtain ⟨r40, hr40, h⟩ := Ob_of h
    refine J.eq (st' := [.int (vI (sx r39)), .ref (a 0)]) (by first | (simp only [sx_v]; done) | (simp only [sx_v]; rfl)) ?_
    refine j_callE C T (u := []) (wc := wo) (v := []) (wr_fire l D a g hl (cl + kc) oA wo Ho (by omega) (sx r39) (sx_in _) r40 hr40) w466 w467 w0 w468 (n := 2) (by decide +kernel) ⟨(Nat.le_of_ble_eq_true rfl), (Nat.le_of_ble_eq_true rfl)⟩ rfl rfl rfl (ww _) C.2.2.2.2.2.2.1 (Nat.le_of_ble_eq_true rfl) rfl hkr40 (by show 6 * kc + 6 * 1 ≤ 6 * 1; omega) dL_act_741 (fun w41 hpw41 _ => ?_)
    refine j_cs (c1 := (kc + 1)) (s1 := 6 * (kc + 1)) (w1 := w41) rfl (by omega) (ww _) ?_
    have hqw41 : Xw a g (cl + (kc + 1)) r40.2 w41 := hpw41
    obtain ⟨hkc, h⟩ := G_of h
    cases h
    refine j_wide hkc (Nat.mul_le_mul_left 6 hkc) ?_
    exact RET w41 _ _ hqw41 hkc dL_act_744
  have J69 : ∀ (l1 : Int) (l2 : Int) (l3 : Int) (s0 : Int) (oA : AS) (kc : Nat) (wo : va_W) (Ho : Xw a g (cl + kc) oA wo), F_L_act_b69 l1 l2 l3 s0 oA kc = some res → J p l e ({ frames := 9, cells := 1, slots := 6, locals := 168 } : Room) s m args below meth c D A 6 Q kc (6 * kc) wo 69 [(0, .ref (a 0)), (1, .int (vI l1)), (2, .int (vI l2)), (3, .int (vI l3))] [.int (vI s0)] := by
    intro l1 l2 l3 s0 oA kc wo Ho h
    unfold F_L_act_b69 at h
    refine j_istore C [(4, .int (vI s0)), (0, .ref (a 0)), (1, .int (vI l1)), (2, .int (vI l2)), (3, .int (vI l3))] rfl (by decide) dL_act_69 ?_
    refine j_iload_n C 3 rfl rfl dL_act_71 ?_
    refine j_if_eq C h 82 (by decide) dL_act_72 (fun c120 h => ?_) (fun c120 h => ?_)
    · refine j_iload_n C 2 rfl rfl dL_act_82 ?_
      refine j_bipush C (by decide) dL_act_83 ?_
      refine j_ishr C dL_act_85 ?_
      refine j_iconst C dL_act_86 ?_
      obtain ⟨hkr119, h⟩ := G_of h
      obtain ⟨r119, hr119, h⟩ := Ob_of h
      refine q_L_77 C (u := []) (v := []) (wc := wo) (wc' := wo) (c_L_low l D _ _ (iShr l1 9) 4 r119 hr119) ⟨(Nat.le_of_ble_eq_true rfl), (Nat.le_of_ble_eq_true rfl)⟩ rfl rfl rfl (ww _) (ww _) rfl C.2.2.2.2.2.2.1 (Nat.le_of_ble_eq_true rfl) rfl rfl hkr119 (Nat.mul_le_mul_left 6 hkr119) dL_act_87 ?_
      refine j_lv [1, 2, 3, 4, 0] rfl ?_
      exact J90 l1 l2 l3 s0 r119 oA kc wo Ho h
    · refine j_iload_n C 2 rfl rfl dL_act_75 ?_
      refine j_bipush C (by decide) dL_act_76 ?_
      refine j_ishr C dL_act_78 ?_
      refine j_goto C 90 (by decide) dL_act_79 ?_
      refine j_lv [1, 2, 3, 4, 0] rfl ?_
      exact J90 l1 l2 l3 s0 (iShr l1 9) oA kc wo Ho h
  have J42 : ∀ (l1 : Int) (l2 : Int) (s0 : Int) (oA : AS) (kc : Nat) (wo : va_W) (Ho : Xw a g (cl + kc) oA wo), F_L_act_b42 l1 l2 s0 oA kc = some res → J p l e ({ frames := 9, cells := 1, slots := 6, locals := 168 } : Room) s m args below meth c D A 6 Q kc (6 * kc) wo 42 [(0, .ref (a 0)), (1, .int (vI l1)), (2, .int (vI l2))] [.int (vI s0)] := by
    intro l1 l2 s0 oA kc wo Ho h
    unfold F_L_act_b42 at h
    refine j_istore_n C [(3, .int (vI s0)), (0, .ref (a 0)), (1, .int (vI l1)), (2, .int (vI l2))] rfl rfl (by decide) dL_act_42 ?_
    refine j_iload_n C 3 rfl rfl dL_act_43 ?_
    refine j_if_eq C h 61 (by decide) dL_act_44 (fun c123 h => ?_) (fun c123 h => ?_)
    · refine j_iload_n C 2 rfl rfl dL_act_61 ?_
      refine j_bipush C (by decide) dL_act_62 ?_
      refine j_ishr C dL_act_64 ?_
      refine j_iconst C dL_act_65 ?_
      obtain ⟨hkr121, h⟩ := G_of h
      obtain ⟨r121, hr121, h⟩ := Ob_of h
      refine q_L_77 C (u := []) (v := []) (wc := wo) (wc' := wo) (c_L_low l D _ _ (iShr l1 7) 3 r121 hr121) ⟨(Nat.le_of_ble_eq_true rfl), (Nat.le_of_ble_eq_true rfl)⟩ rfl rfl rfl (ww _) (ww _) rfl C.2.2.2.2.2.2.1 (Nat.le_of_ble_eq_true rfl) rfl rfl hkr121 (Nat.mul_le_mul_left 6 hkr121) dL_act_66 ?_
      refine j_lv [1, 2, 3, 0] rfl ?_
      exact J69 l1 l2 s0 r121 oA kc wo Ho h
    · refine j_iload_n C 2 rfl rfl dL_act_47 ?_
      refine j_bipush C (by decide) dL_act_48 ?_
      refine j_ishr C dL_act_50 ?_
      refine j_bipush C (by decide) dL_act_51 ?_
      obtain ⟨hkr122, h⟩ := G_of h
      obtain ⟨r122, hr122, h⟩ := Ob_of h
      refine q_L_77 C (u := []) (v := []) (wc := wo) (wc' := wo) (c_L_low l D _ _ (iShr l1 7) 11 r122 hr122) ⟨(Nat.le_of_ble_eq_true rfl), (Nat.le_of_ble_eq_true rfl)⟩ rfl rfl rfl (ww _) (ww _) rfl C.2.2.2.2.2.2.1 (Nat.le_of_ble_eq_true rfl) rfl rfl hkr122 (Nat.mul_le_mul_left 6 hkr122) dL_act_53 ?_
      refine j_iconst C dL_act_56 ?_
      refine j_isub C dL_act_57 ?_
      refine j_goto C 69 (by decide) dL_act_58 ?_
      refine j_lv [1, 2, 3, 0] rfl ?_
      exact J69 l1 l2 s0 (r122 - 2) oA kc wo Ho h
  have J17 : ∀ (l1 : Int) (s0 : Int) (oA : AS) (kc : Nat) (wo : va_W) (Ho : Xw a g (cl + kc) oA wo), F_L_act_b17 l1 s0 oA kc = some res → J p l e ({ frames := 9, cells := 1, slots := 6, locals := 168 } : Room) s m args below meth c D A 6 Q kc (6 * kc) wo 17 [(0, .ref (a 0)), (1, .int (vI l1))] [.int (vI s0)] := by
    intro l1 s0 oA kc wo Ho h
    unfold F_L_act_b17 at h
    refine j_istore_n C [(2, .int (vI s0)), (0, .ref (a 0)), (1, .int (vI l1))] rfl rfl (by decide) dL_act_17 ?_
    refine j_iload_n C 0 rfl rfl dL_act_18 ?_
    refine j_if_eq C h 35 (by decide) dL_act_19 (fun c126 h => ?_) (fun c126 h => ?_)
    · refine j_iload_n C 2 rfl rfl dL_act_35 ?_
      refine j_iconst C dL_act_36 ?_
      refine j_ishr C dL_act_37 ?_
      refine j_iconst C dL_act_38 ?_
      obtain ⟨hkr124, h⟩ := G_of h
      obtain ⟨r124, hr124, h⟩ := Ob_of h
      refine q_L_77 C (u := []) (v := []) (wc := wo) (wc' := wo) (c_L_low l D _ _ (iShr l1 4) 3 r124 hr124) ⟨(Nat.le_of_ble_eq_true rfl), (Nat.le_of_ble_eq_true rfl)⟩ rfl rfl rfl (ww _) (ww _) rfl C.2.2.2.2.2.2.1 (Nat.le_of_ble_eq_true rfl) rfl rfl hkr124 (Nat.mul_le_mul_left 6 hkr124) dL_act_39 ?_
      refine j_lv [1, 2, 0] rfl ?_
      exact J42 l1 s0 r124 oA kc wo Ho h
    · refine j_iload_n C 2 rfl rfl dL_act_22 ?_
      refine j_iconst C dL_act_23 ?_
      refine j_ishr C dL_act_24 ?_
      refine j_bipush C (by decide) dL_act_25 ?_
      obtain ⟨hkr125, h⟩ := G_of h
      obtain ⟨r125, hr125, h⟩ := Ob_of h
      refine q_L_77 C (u := []) (v := []) (wc := wo) (wc' := wo) (c_L_low l D _ _ (iShr l1 4) 9 r125 hr125) ⟨(Nat.le_of_ble_eq_true rfl), (Nat.le_of_ble_eq_true rfl)⟩ rfl rfl rfl (ww _) (ww _) rfl C.2.2.2.2.2.2.1 (Nat.le_of_ble_eq_true rfl) rfl rfl hkr125 (Nat.mul_le_mul_left 6 hkr125) dL_act_27 ?_
      refine j_iconst C dL_act_30 ?_
      refine j_isub C dL_act_31 ?_
      refine j_goto C 42 (by decide) dL_act_32 ?_
      refine j_lv [1, 2, 0] rfl ?_
      exact J42 l1 s0 (r125 - 2) oA kc wo Ho h
  unfold F_L_act at h
  refine j_iload_n C 1 rfl rfl dL_act_0 ?_
  refine j_bipush C (by decide) dL_act_1 ?_
  refine j_ishr C dL_act_3 ?_
  refine j_bipush C (by decide) dL_act_4 ?_
  obtain ⟨hkr127, h⟩ := G_of h
  obtain ⟨r127, hr127, h⟩ := Ob_of h
  refine q_L_77 C (u := []) (v := []) (wc := wo) (wc' := wo) (c_L_low l D _ _ (iShr x1 26) 14 r127 hr127) ⟨(Nat.le_of_ble_eq_true rfl), (Nat.le_of_ble_eq_true rfl)⟩ rfl rfl rfl (ww _) (ww _) rfl C.2.2.2.2.2.2.1 (Nat.le_of_ble_eq_true rfl) rfl rfl hkr127 (Nat.mul_le_mul_left 6 hkr127) dL_act_6 ?_
  refine j_if_ne C h 16 (by decide) dL_act_9 (fun c128 h => ?_) (fun c128 h => ?_)
  · refine j_iconst C dL_act_16 ?_
    exact J17 x1 0 oA kc wo Ho h
  · refine j_iconst C dL_act_12 ?_
    refine j_goto C 17 (by decide) dL_act_13 ?_
    exact J17 x1 1 oA kc wo Ho h
set_option maxRecDepth 100000 in
theorem c_L_act (l : Launch) (D : va_G) (a : Nat → Nat) (g : Nat → ClassId) (hl : l.stackTraces = false) (cl : Nat) (hcl : cl + 1 ≤ 900000) (oA : AS) (wo : va_W) (Ho : Xw a g cl oA wo) (x1 : Int) (res : Int × AS × Nat) (h : F_L_act x1 oA 0 = some res) : Ke l yL_act (Cond.code yL_act cL_act 6 (some .int)) ({ frames := 9, cells := 1, slots := 6, locals := 168 } : Room) D (xT g) [.ref (a 0), .int (vI x1)] wo (fun w => Xw a g (cl + 1) res.2.1 w) res.1 1 (6 * 1) :=
  kn_of rfl (by decide +kernel) (Nat.le_of_ble_eq_true rfl) (fun {p} {e} {s} {m} {args} {below} {meth} {c} {A} {Q} C T RET => k_L_act C T hl cl hcl x1 oA 0 wo Ho res h (fun w1 pc lv H1 hkc hd => RET _ pc lv (Xw_le (by omega) H1) (Xw_ha H1 Ho) hd))
end WK
