section WK
variable {p : Program} {l : Launch} {e : Env} {s : State} {m : MethodId} {args : Array Value} {below : List Frame} {meth : Method} {c : Code} {D : va_G} {A : Nat → Prop} {Q : State → Prop}
set_option maxRecDepth 100000 in
set_option maxHeartbeats 8000000 in
theorem k_L_isSo {a : Nat → Nat} {g : Nat → ClassId} (C : JC p s m args meth c cL_isSo 10 "MarkingHallLaw" D (xT g) A) (T : TT A s) (hl : l.stackTraces = false) (cl : Nat) (hcl : cl + 400 ≤ 900000) (x1 : Int) (oA : AS) (kc : Nat) (wo : va_W) (Ho : Xw a g (cl + kc) oA wo) (res : Int × AS × Nat) (h : F_L_isSo x1 oA kc = some res) (RET : ∀ (wo : va_W) (pc : Nat) (lv : List (Nat × Value)) (Ho : Xw a g (cl + res.2.2) res.2.1 wo), res.2.2 ≤ 400 → (res.1 = 0 ∨ res.1 = 1) → decode cL_isSo pc = .ok (.ireturn, 1) → J p l e ({ frames := 10, cells := 400, slots := 2400, locals := 195 } : Room) s m args below meth c D A 10 Q 400 (6 * 400) wo pc lv [.int (vI res.1)]) : J p l e ({ frames := 10, cells := 400, slots := 2400, locals := 195 } : Room) s m args below meth c D A 10 Q kc (6 * kc) wo 0 [(0, .ref (a 0)), (1, .int (vI x1))] [] := by
  have J411 : ∀ (oA : AS) (kc : Nat) (wo : va_W) (Ho : Xw a g (cl + kc) oA wo), F_L_isSo_b411 oA kc = some res → J p l e ({ frames := 10, cells := 400, slots := 2400, locals := 195 } : Room) s m args below meth c D A 10 Q kc (6 * kc) wo 411 [] [] := by
    intro oA kc wo Ho h
    unfold F_L_isSo_b411 at h
    refine j_iconst C dL_isSo_411 ?_
    obtain ⟨hkc, h⟩ := G_of h
    obtain ⟨hz, h⟩ := G_of h
    cases h
    refine j_wide hkc (Nat.mul_le_mul_left 6 hkc) ?_
    exact RET wo _ _ Ho hkc hz dL_isSo_412
  have J379 : ∀ (l1 : Int) (l5 : Int) (oA : AS) (kc : Nat) (wo : va_W) (Ho : Xw a g (cl + kc) oA wo), F_L_isSo_b379 l1 l5 oA kc = some res → J p l e ({ frames := 10, cells := 400, slots := 2400, locals := 195 } : Room) s m args below meth c D A 10 Q kc (6 * kc) wo 379 [(0, .ref (a 0)), (1, .int (vI l1)), (5, .int (vI l5))] [] := by
    intro l1 l5 oA kc wo Ho h
    unfold F_L_isSo_b379 at h
    refine j_iload C 2 rfl dL_isSo_379 ?_
    refine j_if_eq C h 411 (by decide) dL_isSo_381 (fun c6 h => ?_) (fun c6 h => ?_)
    · refine j_lv [] rfl ?_
      exact J411 oA kc wo Ho h
    · refine j_aload_n C 0 rfl rfl dL_isSo_384 ?_
      refine j_iload_n C 1 rfl rfl dL_isSo_385 ?_
      refine j_iconst C dL_isSo_386 ?_
      refine j_ishr C dL_isSo_387 ?_
      refine j_iconst C dL_isSo_388 ?_
      obtain ⟨hkr1, h⟩ := G_of h
      obtain ⟨r1, hr1, h⟩ := Ob_of h
      refine q_L_77 C (u := []) (v := []) (wc := wo) (wc' := wo) (c_L_low l D _ _ (iShr l1 3) 3 r1 hr1) ⟨(Nat.le_of_ble_eq_true rfl), (Nat.le_of_ble_eq_true rfl)⟩ rfl rfl rfl (ww _) (ww _) rfl C.2.2.2.2.2.2.1 (Nat.le_of_ble_eq_true rfl) rfl rfl hkr1 (Nat.mul_le_mul_left 6 hkr1) dL_isSo_389 ?_
      refine j_iload_n C 1 rfl rfl dL_isSo_392 ?_
      refine j_bipush C (by decide) dL_isSo_393 ?_
      refine j_ishr C dL_isSo_395 ?_
      refine j_bipush C (by decide) dL_isSo_396 ?_
      obtain ⟨hkr2, h⟩ := G_of h
      obtain ⟨r2, hr2, h⟩ := Ob_of h
      refine q_L_77 C (u := []) (v := []) (wc := wo) (wc' := wo) (c_L_low l D _ _ (iShr l1 6) 6 r2 hr2) ⟨(Nat.le_of_ble_eq_true rfl), (Nat.le_of_ble_eq_true rfl)⟩ rfl rfl rfl (ww _) (ww _) rfl C.2.2.2.2.2.2.1 (Nat.le_of_ble_eq_true rfl) rfl rfl hkr2 (Nat.mul_le_mul_left 6 hkr2) dL_isSo_398 ?_
      obtain ⟨hkr3, h⟩ := G_of h
      obtain ⟨r3, hr3, h⟩ := Ob_of h
      refine J.eq (st' := [.int (vI (sx r2)), .int (vI (sx r1)), .ref (a 0)]) (by first | (simp only [sx_v]; done) | (simp only [sx_v]; rfl)) ?_
      refine j_callN C T (u := []) (wc := wo) (v := []) (c_L_isWaySo l D a g hl (cl + kc) (by omega) oA wo Ho (sx r1) (sx r2) r3 hr3) w831 w832 w0 w833 (n := 3) (by decide +kernel) ⟨(Nat.le_of_ble_eq_true rfl), (Nat.le_of_ble_eq_true rfl)⟩ rfl rfl rfl (ww _) C.2.2.2.2.2.2.1 (Nat.le_of_ble_eq_true rfl) rfl hkr3 (by show 6 * kc + 6 * 100 ≤ 6 * 400; omega) dL_isSo_401 (fun w4 hpw4 _ => ?_)
      refine j_cs (c1 := (kc + 100)) (s1 := 6 * (kc + 100)) (w1 := w4) rfl (by omega) (ww _) ?_
      have hqw4 : Xw a g (cl + (kc + 100)) r3.2.1 w4 := hpw4
      refine j_if_eq C h 411 (by decide) dL_isSo_404 (fun c5 h => ?_) (fun c5 h => ?_)
      · refine j_lv [] rfl ?_
        exact J411 r3.2.1 (kc + 100) w4 hqw4 h
      · refine j_iconst C dL_isSo_407 ?_
        refine j_goto C 412 (by decide) dL_isSo_408 ?_
        obtain ⟨hkc, h⟩ := G_of h
        obtain ⟨hz, h⟩ := G_of h
        cases h
        refine j_wide hkc (Nat.mul_le_mul_left 6 hkc) ?_
        exact RET w4 _ _ hqw4 hkc hz dL_isSo_412
  have J281 : ∀ (n : Nat) (l1 : Int) (l5 : Int) (l7 : Int) (oA : AS) (kc : Nat) (wo : va_W) (Ho : Xw a g (cl + kc) oA wo), F_L_isSo_b281 n l1 l5 l7 oA kc = some res → J p l e ({ frames := 10, cells := 400, slots := 2400, locals := 195 } : Room) s m args below meth c D A 10 Q kc (6 * kc) wo 281 [(0, .ref (a 0)), (1, .int (vI l1)), (5, .int (vI l5)), (7, .int (vI l7))] [] := by
    intro n
    induction n with
    | zero => intro l1 l5 l7 oA kc wo Ho h; exact no_h h
    | succ n ih281 =>
      intro l1 l5 l7 oA kc wo Ho h
      replace h : F_L_isSo_b281_body (F_L_isSo_b281 n) l1 l5 l7 oA kc = some res := h
      generalize F_L_isSo_b281 n = ag281 at ih281 h
      have J371 : ∀ (l1 : Int) (l7 : Int) (s0 : Int) (oA : AS) (kc : Nat) (wo : va_W) (Ho : Xw a g (cl + kc) oA wo), F_L_isSo_b371 ag281 l1 l7 s0 oA kc = some res → J p l e ({ frames := 10, cells := 400, slots := 2400, locals := 195 } : Room) s m args below meth c D A 10 Q kc (6 * kc) wo 371 [(0, .ref (a 0)), (1, .int (vI l1)), (7, .int (vI l7))] [.int (vI s0)] := by
        intro l1 l7 s0 oA kc wo Ho h
        unfold F_L_isSo_b371 at h
        refine j_istore C [(5, .int (vI s0)), (0, .ref (a 0)), (1, .int (vI l1)), (7, .int (vI l7))] rfl (by decide) dL_isSo_371 ?_
        refine j_iinc C 3 rfl (fun v => [(7, .int (vI v)), (5, .int (vI s0)), (0, .ref (a 0)), (1, .int (vI l1))]) (fun _ => rfl) (by decide) h dL_isSo_373 (fun v7 h => ?_)
        refine j_goto C 281 (by decide) dL_isSo_376 ?_
        refine j_lv [2, 3, 1, 0] rfl ?_
        exact ih281 l1 s0 v7 oA kc wo Ho h
      have J370 : ∀ (l1 : Int) (l7 : Int) (oA : AS) (kc : Nat) (wo : va_W) (Ho : Xw a g (cl + kc) oA wo), F_L_isSo_b370 ag281 l1 l7 oA kc = some res → J p l e ({ frames := 10, cells := 400, slots := 2400, locals := 195 } : Room) s m args below meth c D A 10 Q kc (6 * kc) wo 370 [(0, .ref (a 0)), (1, .int (vI l1)), (7, .int (vI l7))] [] := by
        intro l1 l7 oA kc wo Ho h
        unfold F_L_isSo_b370 at h
        refine j_iconst C dL_isSo_370 ?_
        exact J371 l1 l7 0 oA kc wo Ho h
      have J366 : ∀ (l1 : Int) (l7 : Int) (oA : AS) (kc : Nat) (wo : va_W) (Ho : Xw a g (cl + kc) oA wo), F_L_isSo_b366 ag281 l1 l7 oA kc = some res → J p l e ({ frames := 10, cells := 400, slots := 2400, locals := 195 } : Room) s m args below meth c D A 10 Q kc (6 * kc) wo 366 [(0, .ref (a 0)), (1, .int (vI l1)), (7, .int (vI l7))] [] := by
        intro l1 l7 oA kc wo Ho h
        unfold F_L_isSo_b366 at h
        refine j_iconst C dL_isSo_366 ?_
        refine j_goto C 371 (by decide) dL_isSo_367 ?_
        exact J371 l1 l7 1 oA kc wo Ho h
      unfold F_L_isSo_b281_body at h
      refine j_iload C 3 rfl dL_isSo_281 ?_
      refine j_aload_n C 0 rfl rfl dL_isSo_283 ?_
      obtain ⟨hkr8, h⟩ := G_of h
      obtain ⟨r8, hr8, h⟩ := Ob_of h
      refine dj_siphons C (u := []) (wc := wo) (v := []) Ho (by omega)  hr8 (ww _) C.2.2.2.2.2.2.1 (Nat.le_of_ble_eq_true rfl) (Nat.le_of_ble_eq_true rfl) (Nat.le_of_ble_eq_true rfl) hkr8 (by show 6 * kc + 6 * 1 ≤ 6 * 400; omega) dL_isSo_284 (fun w9 hpw9 _ => ?_)
      refine j_cs (c1 := (kc + 1)) (s1 := 6 * (kc + 1)) (w1 := w9) rfl (by omega) (ww _) ?_
      have hqw9 : Xw a g (cl + (kc + 1)) r8.2 w9 := hpw9
      refine j_icmp_ge C h 379 (by decide) dL_isSo_287 (fun c30 h => ?_) (fun c30 h => ?_)
      · refine j_lv [0, 1, 2] rfl ?_
        exact J379 l1 l5 r8.2 (kc + 1) w9 hqw9 h
      · refine j_iload C 3 rfl dL_isSo_290 ?_
        refine j_bipush C (by decide) dL_isSo_292 ?_
        refine j_icmp_ge C h 379 (by decide) dL_isSo_294 (fun c29 h => ?_) (fun c29 h => ?_)
        · refine j_lv [0, 1, 2] rfl ?_
          exact J379 l1 l5 r8.2 (kc + 1) w9 hqw9 h
        · refine j_iload C 2 rfl dL_isSo_297 ?_
          refine j_if_eq C h 379 (by decide) dL_isSo_299 (fun c28 h => ?_) (fun c28 h => ?_)
          · refine j_lv [0, 1, 2] rfl ?_
            exact J379 l1 l5 r8.2 (kc + 1) w9 hqw9 h
          · refine j_aload_n C 0 rfl rfl dL_isSo_302 ?_
            refine j_iload C 3 rfl dL_isSo_303 ?_
            obtain ⟨hkr10, h⟩ := G_of h
            obtain ⟨r10, hr10, h⟩ := Ob_of h
            refine J.eq (st' := [.int (vI (sx l7)), .ref (a 0)]) (by first | (simp only [sx_v]; done) | (simp only [sx_v]; rfl)) ?_
            refine dj_siphon C (u := []) (wc := w9) (v := []) hqw9 (by omega) (sx_in _) hr10 (ww _) C.2.2.2.2.2.2.1 (Nat.le_of_ble_eq_true rfl) (Nat.le_of_ble_eq_true rfl) (Nat.le_of_ble_eq_true rfl) hkr10 (by show 6 * (kc + 1) + 6 * 1 ≤ 6 * 400; omega) dL_isSo_305 (fun w11 hpw11 _ => ?_)
            refine j_cs (c1 := ((kc + 1) + 1)) (s1 := 6 * ((kc + 1) + 1)) (w1 := w11) rfl (by omega) (ww _) ?_
            have hqw11 : Xw a g (cl + ((kc + 1) + 1)) r10.2 w11 := hpw11
            refine j_istore C [(8, .int (vI r10.1)), (0, .ref (a 0)), (1, .int (vI l1)), (5, .int (vI l5)), (7, .int (vI l7))] rfl (by decide) dL_isSo_308 ?_
            refine j_iload C 0 rfl dL_isSo_310 ?_
            refine j_if_le C h 370 (by decide) dL_isSo_312 (fun c27 h => ?_) (fun c27 h => ?_)
            · refine j_lv [1, 2, 4] rfl ?_
              exact J370 l1 l7 r10.2 ((kc + 1) + 1) w11 hqw11 h
            · refine j_aload_n C 1 rfl rfl dL_isSo_315 ?_
              refine j_iload C 0 rfl dL_isSo_316 ?_
              obtain ⟨hkr12, h⟩ := G_of h
              obtain ⟨r12, hr12, h⟩ := Ob_of h
              refine J.eq (st' := [.int (vI (sx r10.1)), .ref (a 0)]) (by first | (simp only [sx_v]; done) | (simp only [sx_v]; rfl)) ?_
              refine dj_trap C (u := []) (wc := w11) (v := []) hqw11 (by omega) (sx_in _) hr12 (ww _) C.2.2.2.2.2.2.1 (Nat.le_of_ble_eq_true rfl) (Nat.le_of_ble_eq_true rfl) (Nat.le_of_ble_eq_true rfl) hkr12 (by show 6 * ((kc + 1) + 1) + 6 * 1 ≤ 6 * 400; omega) dL_isSo_318 (fun w13 hpw13 _ => ?_)
              refine j_cs (c1 := (((kc + 1) + 1) + 1)) (s1 := 6 * (((kc + 1) + 1) + 1)) (w1 := w13) rfl (by omega) (ww _) ?_
              have hqw13 : Xw a g (cl + (((kc + 1) + 1) + 1)) r12.2 w13 := hpw13
              refine j_iload C 0 rfl dL_isSo_321 ?_
              refine j_iconst C dL_isSo_323 ?_
              refine j_ixor C dL_isSo_324 ?_
              refine j_iand C dL_isSo_325 ?_
              refine j_nm h (fun v14 h => ?_)
              refine j_if_ne C h 370 (by decide) dL_isSo_326 (fun c26 h => ?_) (fun c26 h => ?_)
              · refine j_lv [1, 2, 4] rfl ?_
                exact J370 l1 l7 r12.2 (((kc + 1) + 1) + 1) w13 hqw13 h
              · refine j_aload_n C 1 rfl rfl dL_isSo_329 ?_
                refine j_aload_n C 1 rfl rfl dL_isSo_330 ?_
                refine j_iload C 0 rfl dL_isSo_331 ?_
                obtain ⟨hkr15, h⟩ := G_of h
                obtain ⟨r15, hr15, h⟩ := Ob_of h
                refine J.eq (st' := [.int (vI (sx r10.1)), .ref (a 0), .ref (a 0)]) (by first | (simp only [sx_v]; done) | (simp only [sx_v]; rfl)) ?_
                refine dj_trap C (u := []) (wc := w13) (v := []) hqw13 (by omega) (sx_in _) hr15 (ww _) C.2.2.2.2.2.2.1 (Nat.le_of_ble_eq_true rfl) (Nat.le_of_ble_eq_true rfl) (Nat.le_of_ble_eq_true rfl) hkr15 (by show 6 * (((kc + 1) + 1) + 1) + 6 * 1 ≤ 6 * 400; omega) dL_isSo_333 (fun w16 hpw16 _ => ?_)
                refine j_cs (c1 := ((((kc + 1) + 1) + 1) + 1)) (s1 := 6 * ((((kc + 1) + 1) + 1) + 1)) (w1 := w16) rfl (by omega) (ww _) ?_
                have hqw16 : Xw a g (cl + ((((kc + 1) + 1) + 1) + 1)) r15.2 w16 := hpw16
                obtain ⟨hkr17, h⟩ := G_of h
                obtain ⟨r17, hr17, h⟩ := Ob_of h
                refine J.eq (st' := [.int (vI (sx r15.1)), .ref (a 0)]) (by first | (simp only [sx_v]; done) | (simp only [sx_v]; rfl)) ?_
                refine dj_trap C (u := []) (wc := w16) (v := []) hqw16 (by omega) (sx_in _) hr17 (ww _) C.2.2.2.2.2.2.1 (Nat.le_of_ble_eq_true rfl) (Nat.le_of_ble_eq_true rfl) (Nat.le_of_ble_eq_true rfl) hkr17 (by show 6 * ((((kc + 1) + 1) + 1) + 1) + 6 * 1 ≤ 6 * 400; omega) dL_isSo_336 (fun w18 hpw18 _ => ?_)
                refine j_cs (c1 := (((((kc + 1) + 1) + 1) + 1) + 1)) (s1 := 6 * (((((kc + 1) + 1) + 1) + 1) + 1)) (w1 := w18) rfl (by omega) (ww _) ?_
                have hqw18 : Xw a g (cl + (((((kc + 1) + 1) + 1) + 1) + 1)) r17.2 w18 := hpw18
                refine j_aload_n C 1 rfl rfl dL_isSo_339 ?_
                refine j_iload C 0 rfl dL_isSo_340 ?_
                obtain ⟨hkr19, h⟩ := G_of h
                obtain ⟨r19, hr19, h⟩ := Ob_of h
                refine J.eq (st' := [.int (vI (sx r10.1)), .ref (a 0), .int (vI r17.1)]) (by first | (simp only [sx_v]; done) | (simp only [sx_v]; rfl)) ?_
                refine dj_trap C (u := []) (wc := w18) (v := []) hqw18 (by omega) (sx_in _) hr19 (ww _) C.2.2.2.2.2.2.1 (Nat.le_of_ble_eq_true rfl) (Nat.le_of_ble_eq_true rfl) (Nat.le_of_ble_eq_true rfl) hkr19 (by show 6 * (((((kc + 1) + 1) + 1) + 1) + 1) + 6 * 1 ≤ 6 * 400; omega) dL_isSo_342 (fun w20 hpw20 _ => ?_)
                refine j_cs (c1 := ((((((kc + 1) + 1) + 1) + 1) + 1) + 1)) (s1 := 6 * ((((((kc + 1) + 1) + 1) + 1) + 1) + 1)) (w1 := w20) rfl (by omega) (ww _) ?_
                have hqw20 : Xw a g (cl + ((((((kc + 1) + 1) + 1) + 1) + 1) + 1)) r19.2 w20 := hpw20
                refine j_icmp_ne C h 370 (by decide) dL_isSo_345 (fun c25 h => ?_) (fun c25 h => ?_)
                · refine j_lv [1, 2, 4] rfl ?_
                  exact J370 l1 l7 r19.2 ((((((kc + 1) + 1) + 1) + 1) + 1) + 1) w20 hqw20 h
                · refine j_iload C 4 rfl dL_isSo_348 ?_
                  refine j_if_eq C h 366 (by decide) dL_isSo_350 (fun c24 h => ?_) (fun c24 h => ?_)
                  · refine j_lv [1, 2, 4] rfl ?_
                    exact J366 l1 l7 r19.2 ((((((kc + 1) + 1) + 1) + 1) + 1) + 1) w20 hqw20 h
                  · refine j_iload C 0 rfl dL_isSo_353 ?_
                    refine j_aload_n C 1 rfl rfl dL_isSo_355 ?_
                    refine j_iload C 4 rfl dL_isSo_356 ?_
                    refine j_iconst C dL_isSo_358 ?_
                    refine j_isub C dL_isSo_359 ?_
                    obtain ⟨hkr21, h⟩ := G_of h
                    obtain ⟨r21, hr21, h⟩ := Ob_of h
                    refine J.eq (st' := [.int (vI (sx (l7 - 1))), .ref (a 0), .int (vI r10.1)]) (by first | (simp only [sx_v]; done) | (simp only [sx_v]; rfl)) ?_
                    refine dj_siphon C (u := []) (wc := w20) (v := []) hqw20 (by omega) (sx_in _) hr21 (ww _) C.2.2.2.2.2.2.1 (Nat.le_of_ble_eq_true rfl) (Nat.le_of_ble_eq_true rfl) (Nat.le_of_ble_eq_true rfl) hkr21 (by show 6 * ((((((kc + 1) + 1) + 1) + 1) + 1) + 1) + 6 * 1 ≤ 6 * 400; omega) dL_isSo_360 (fun w22 hpw22 _ => ?_)
                    refine j_cs (c1 := (((((((kc + 1) + 1) + 1) + 1) + 1) + 1) + 1)) (s1 := 6 * (((((((kc + 1) + 1) + 1) + 1) + 1) + 1) + 1)) (w1 := w22) rfl (by omega) (ww _) ?_
                    have hqw22 : Xw a g (cl + (((((((kc + 1) + 1) + 1) + 1) + 1) + 1) + 1)) r21.2 w22 := hpw22
                    refine j_icmp_le C h 370 (by decide) dL_isSo_363 (fun c23 h => ?_) (fun c23 h => ?_)
                    · refine j_lv [1, 2, 4] rfl ?_
                      exact J370 l1 l7 r21.2 (((((((kc + 1) + 1) + 1) + 1) + 1) + 1) + 1) w22 hqw22 h
                    · refine j_lv [1, 2, 4] rfl ?_
                      exact J366 l1 l7 r21.2 (((((((kc + 1) + 1) + 1) + 1) + 1) + 1) + 1) w22 hqw22 h
  have J278 : ∀ (l1 : Int) (l5 : Int) (oA : AS) (kc : Nat) (wo : va_W) (Ho : Xw a g (cl + kc) oA wo), F_L_isSo_b278 l1 l5 oA kc = some res → J p l e ({ frames := 10, cells := 400, slots := 2400, locals := 195 } : Room) s m args below meth c D A 10 Q kc (6 * kc) wo 278 [(0, .ref (a 0)), (1, .int (vI l1)), (5, .int (vI l5))] [] := by
    intro l1 l5 oA kc wo Ho h
    unfold F_L_isSo_b278 at h
    refine j_iconst C dL_isSo_278 ?_
    refine j_istore C [(7, .int (vI 0)), (0, .ref (a 0)), (1, .int (vI l1)), (5, .int (vI l5))] rfl (by decide) dL_isSo_279 ?_
    refine j_lv [1, 2, 3, 0] rfl ?_
    exact J281 NN l1 l5 0 oA kc wo Ho h
  have J220 : ∀ (n : Nat) (l1 : Int) (l5 : Int) (l7 : Int) (oA : AS) (kc : Nat) (wo : va_W) (Ho : Xw a g (cl + kc) oA wo), F_L_isSo_b220 n l1 l5 l7 oA kc = some res → J p l e ({ frames := 10, cells := 400, slots := 2400, locals := 195 } : Room) s m args below meth c D A 10 Q kc (6 * kc) wo 220 [(0, .ref (a 0)), (1, .int (vI l1)), (5, .int (vI l5)), (7, .int (vI l7))] [] := by
    intro n
    induction n with
    | zero => intro l1 l5 l7 oA kc wo Ho h; exact no_h h
    | succ n ih220 =>
      intro l1 l5 l7 oA kc wo Ho h
      replace h : F_L_isSo_b220_body (F_L_isSo_b220 n) l1 l5 l7 oA kc = some res := h
      generalize F_L_isSo_b220 n = ag220 at ih220 h
      have J270 : ∀ (l1 : Int) (l7 : Int) (s0 : Int) (oA : AS) (kc : Nat) (wo : va_W) (Ho : Xw a g (cl + kc) oA wo), F_L_isSo_b270 ag220 l1 l7 s0 oA kc = some res → J p l e ({ frames := 10, cells := 400, slots := 2400, locals := 195 } : Room) s m args below meth c D A 10 Q kc (6 * kc) wo 270 [(0, .ref (a 0)), (1, .int (vI l1)), (7, .int (vI l7))] [.int (vI s0)] := by
        intro l1 l7 s0 oA kc wo Ho h
        unfold F_L_isSo_b270 at h
        refine j_istore C [(5, .int (vI s0)), (0, .ref (a 0)), (1, .int (vI l1)), (7, .int (vI l7))] rfl (by decide) dL_isSo_270 ?_
        refine j_iinc C 3 rfl (fun v => [(7, .int (vI v)), (5, .int (vI s0)), (0, .ref (a 0)), (1, .int (vI l1))]) (fun _ => rfl) (by decide) h dL_isSo_272 (fun v31 h => ?_)
        refine j_goto C 220 (by decide) dL_isSo_275 ?_
        refine j_lv [2, 3, 1, 0] rfl ?_
        exact ih220 l1 s0 v31 oA kc wo Ho h
      have J265 : ∀ (l1 : Int) (l7 : Int) (oA : AS) (kc : Nat) (wo : va_W) (Ho : Xw a g (cl + kc) oA wo), F_L_isSo_b265 ag220 l1 l7 oA kc = some res → J p l e ({ frames := 10, cells := 400, slots := 2400, locals := 195 } : Room) s m args below meth c D A 10 Q kc (6 * kc) wo 265 [(0, .ref (a 0)), (1, .int (vI l1)), (7, .int (vI l7))] [] := by
        intro l1 l7 oA kc wo Ho h
        unfold F_L_isSo_b265 at h
        refine j_iconst C dL_isSo_265 ?_
        refine j_goto C 270 (by decide) dL_isSo_266 ?_
        exact J270 l1 l7 1 oA kc wo Ho h
      unfold F_L_isSo_b220_body at h
      refine j_iload C 3 rfl dL_isSo_220 ?_
      refine j_bipush C (by decide) dL_isSo_222 ?_
      refine j_icmp_ge C h 278 (by decide) dL_isSo_224 (fun c40 h => ?_) (fun c40 h => ?_)
      · refine j_lv [0, 1, 2] rfl ?_
        exact J278 l1 l5 oA kc wo Ho h
      · refine j_iload C 2 rfl dL_isSo_227 ?_
        refine j_if_eq C h 278 (by decide) dL_isSo_229 (fun c39 h => ?_) (fun c39 h => ?_)
        · refine j_lv [0, 1, 2] rfl ?_
          exact J278 l1 l5 oA kc wo Ho h
        · refine j_aload_n C 0 rfl rfl dL_isSo_232 ?_
          refine j_iload C 3 rfl dL_isSo_233 ?_
          obtain ⟨hkr32, h⟩ := G_of h
          obtain ⟨r32, hr32, h⟩ := Ob_of h
          refine J.eq (st' := [.int (vI (sx l7)), .ref (a 0)]) (by first | (simp only [sx_v]; done) | (simp only [sx_v]; rfl)) ?_
          refine j_callE C T (u := []) (wc := wo) (v := []) (wr_most l D a g hl (cl + kc) oA wo Ho (by omega) (sx l7) (sx_in _) r32 hr32) w545 w546 w0 w547 (n := 2) (by decide +kernel) ⟨(Nat.le_of_ble_eq_true rfl), (Nat.le_of_ble_eq_true rfl)⟩ rfl rfl rfl (ww _) C.2.2.2.2.2.2.1 (Nat.le_of_ble_eq_true rfl) rfl hkr32 (by show 6 * kc + 6 * 1 ≤ 6 * 400; omega) dL_isSo_235 (fun w33 hpw33 _ => ?_)
          refine j_cs (c1 := (kc + 1)) (s1 := 6 * (kc + 1)) (w1 := w33) rfl (by omega) (ww _) ?_
          have hqw33 : Xw a g (cl + (kc + 1)) r32.2 w33 := hpw33
          refine j_istore C [(8, .int (vI r32.1)), (0, .ref (a 0)), (1, .int (vI l1)), (5, .int (vI l5)), (7, .int (vI l7))] rfl (by decide) dL_isSo_238 ?_
          refine j_aload_n C 1 rfl rfl dL_isSo_240 ?_
          refine j_iload C 4 rfl dL_isSo_241 ?_
          obtain ⟨hkr34, h⟩ := G_of h
          obtain ⟨r34, hr34, h⟩ := Ob_of h
          refine J.eq (st' := [.int (vI (sx l7)), .ref (a 0)]) (by first | (simp only [sx_v]; done) | (simp only [sx_v]; rfl)) ?_
          refine j_callE C T (u := []) (wc := w33) (v := []) (wr_mostByRows l D a g hl (cl + (kc + 1)) r32.2 w33 hqw33 (by omega) (sx l7) (sx_in _) r34 hr34) w661 w662 w0 w663 (n := 2) (by decide +kernel) ⟨(Nat.le_of_ble_eq_true rfl), (Nat.le_of_ble_eq_true rfl)⟩ rfl rfl rfl (ww _) C.2.2.2.2.2.2.1 (Nat.le_of_ble_eq_true rfl) rfl hkr34 (by show 6 * (kc + 1) + 6 * 1 ≤ 6 * 400; omega) dL_isSo_243 (fun w35 hpw35 _ => ?_)
          refine j_cs (c1 := ((kc + 1) + 1)) (s1 := 6 * ((kc + 1) + 1)) (w1 := w35) rfl (by omega) (ww _) ?_
          have hqw35 : Xw a g (cl + ((kc + 1) + 1)) r34.2 w35 := hpw35
          refine j_istore C [(9, .int (vI r34.1)), (8, .int (vI r32.1)), (0, .ref (a 0)), (1, .int (vI l1)), (5, .int (vI l5)), (7, .int (vI l7))] rfl (by decide) dL_isSo_246 ?_
          refine j_iload C 1 rfl dL_isSo_248 ?_
          refine j_if_lt C h 265 (by decide) dL_isSo_250 (fun c38 h => ?_) (fun c38 h => ?_)
          · refine j_lv [2, 3, 5] rfl ?_
            exact J265 l1 l7 r34.2 ((kc + 1) + 1) w35 hqw35 h
          · refine j_iload C 0 rfl dL_isSo_253 ?_
            refine j_if_lt C h 265 (by decide) dL_isSo_255 (fun c37 h => ?_) (fun c37 h => ?_)
            · refine j_lv [2, 3, 5] rfl ?_
              exact J265 l1 l7 r34.2 ((kc + 1) + 1) w35 hqw35 h
            · refine j_iload C 1 rfl dL_isSo_258 ?_
              refine j_iload C 0 rfl dL_isSo_260 ?_
              refine j_icmp_gt C h 269 (by decide) dL_isSo_262 (fun c36 h => ?_) (fun c36 h => ?_)
              · refine j_iconst C dL_isSo_269 ?_
                refine j_lv [2, 3, 5] rfl ?_
                exact J270 l1 l7 0 r34.2 ((kc + 1) + 1) w35 hqw35 h
              · refine j_lv [2, 3, 5] rfl ?_
                exact J265 l1 l7 r34.2 ((kc + 1) + 1) w35 hqw35 h
  have J215 : ∀ (l1 : Int) (s0 : Int) (oA : AS) (kc : Nat) (wo : va_W) (Ho : Xw a g (cl + kc) oA wo), F_L_isSo_b215 l1 s0 oA kc = some res → J p l e ({ frames := 10, cells := 400, slots := 2400, locals := 195 } : Room) s m args below meth c D A 10 Q kc (6 * kc) wo 215 [(0, .ref (a 0)), (1, .int (vI l1))] [.int (vI s0)] := by
    intro l1 s0 oA kc wo Ho h
    unfold F_L_isSo_b215 at h
    refine j_istore C [(5, .int (vI s0)), (0, .ref (a 0)), (1, .int (vI l1))] rfl (by decide) dL_isSo_215 ?_
    refine j_iconst C dL_isSo_217 ?_
    refine j_istore C [(7, .int (vI 0)), (5, .int (vI s0)), (0, .ref (a 0)), (1, .int (vI l1))] rfl (by decide) dL_isSo_218 ?_
    refine j_lv [2, 3, 1, 0] rfl ?_
    exact J220 NN l1 s0 0 oA kc wo Ho h
  have J214 : ∀ (l1 : Int) (oA : AS) (kc : Nat) (wo : va_W) (Ho : Xw a g (cl + kc) oA wo), F_L_isSo_b214 l1 oA kc = some res → J p l e ({ frames := 10, cells := 400, slots := 2400, locals := 195 } : Room) s m args below meth c D A 10 Q kc (6 * kc) wo 214 [(0, .ref (a 0)), (1, .int (vI l1))] [] := by
    intro l1 oA kc wo Ho h
    unfold F_L_isSo_b214 at h
    refine j_iconst C dL_isSo_214 ?_
    exact J215 l1 0 oA kc wo Ho h
  have J210 : ∀ (l1 : Int) (oA : AS) (kc : Nat) (wo : va_W) (Ho : Xw a g (cl + kc) oA wo), F_L_isSo_b210 l1 oA kc = some res → J p l e ({ frames := 10, cells := 400, slots := 2400, locals := 195 } : Room) s m args below meth c D A 10 Q kc (6 * kc) wo 210 [(0, .ref (a 0)), (1, .int (vI l1))] [] := by
    intro l1 oA kc wo Ho h
    unfold F_L_isSo_b210 at h
    refine j_iconst C dL_isSo_210 ?_
    refine j_goto C 215 (by decide) dL_isSo_211 ?_
    exact J215 l1 1 oA kc wo Ho h
  have J165 : ∀ (l1 : Int) (s0 : Int) (oA : AS) (kc : Nat) (wo : va_W) (Ho : Xw a g (cl + kc) oA wo), F_L_isSo_b165 l1 s0 oA kc = some res → J p l e ({ frames := 10, cells := 400, slots := 2400, locals := 195 } : Room) s m args below meth c D A 10 Q kc (6 * kc) wo 165 [(0, .ref (a 0)), (1, .int (vI l1))] [.int (vI s0)] := by
    intro l1 s0 oA kc wo Ho h
    unfold F_L_isSo_b165 at h
    refine j_istore C [(5, .int (vI s0)), (0, .ref (a 0)), (1, .int (vI l1))] rfl (by decide) dL_isSo_165 ?_
    refine j_aload_n C 1 rfl rfl dL_isSo_167 ?_
    obtain ⟨hkr41, h⟩ := G_of h
    obtain ⟨r41, hr41, h⟩ := Ob_of h
    refine dj_blank C (u := []) (wc := wo) (v := []) Ho (by omega)  hr41 (ww _) C.2.2.2.2.2.2.1 (Nat.le_of_ble_eq_true rfl) (Nat.le_of_ble_eq_true rfl) (Nat.le_of_ble_eq_true rfl) hkr41 (by show 6 * kc + 6 * 1 ≤ 6 * 400; omega) dL_isSo_168 (fun w42 hpw42 _ => ?_)
    refine j_cs (c1 := (kc + 1)) (s1 := 6 * (kc + 1)) (w1 := w42) rfl (by omega) (ww _) ?_
    have hqw42 : Xw a g (cl + (kc + 1)) r41.2 w42 := hpw42
    refine j_pop C rfl dL_isSo_171 ?_
    refine j_iload C 0 rfl dL_isSo_172 ?_
    refine j_if_eq C h 214 (by decide) dL_isSo_174 (fun c55 h => ?_) (fun c55 h => ?_)
    · refine j_lv [1, 2] rfl ?_
      exact J214 l1 r41.2 (kc + 1) w42 hqw42 h
    · refine j_aload_n C 1 rfl rfl dL_isSo_177 ?_
      obtain ⟨hkr43, h⟩ := G_of h
      obtain ⟨r43, hr43, h⟩ := Ob_of h
      refine dj_goes C (u := []) (wc := w42) (v := []) hqw42 (by omega)  hr43 (ww _) C.2.2.2.2.2.2.1 (Nat.le_of_ble_eq_true rfl) (Nat.le_of_ble_eq_true rfl) (Nat.le_of_ble_eq_true rfl) hkr43 (by show 6 * (kc + 1) + 6 * 1 ≤ 6 * 400; omega) dL_isSo_178 (fun w44 hpw44 _ => ?_)
      refine j_cs (c1 := ((kc + 1) + 1)) (s1 := 6 * ((kc + 1) + 1)) (w1 := w44) rfl (by omega) (ww _) ?_
      have hqw44 : Xw a g (cl + ((kc + 1) + 1)) r43.2 w44 := hpw44
      refine j_if_ne C h 214 (by decide) dL_isSo_181 (fun c54 h => ?_) (fun c54 h => ?_)
      · refine j_lv [1, 2] rfl ?_
        exact J214 l1 r43.2 ((kc + 1) + 1) w44 hqw44 h
      · refine j_aload_n C 1 rfl rfl dL_isSo_184 ?_
        refine j_iconst C dL_isSo_185 ?_
        obtain ⟨hkr45, h⟩ := G_of h
        obtain ⟨r45, hr45, h⟩ := Ob_of h
        refine dj_graph C (u := []) (wc := w44) (v := []) hqw44 (by omega) (by decide) hr45 (ww _) C.2.2.2.2.2.2.1 (Nat.le_of_ble_eq_true rfl) (Nat.le_of_ble_eq_true rfl) (Nat.le_of_ble_eq_true rfl) hkr45 (by show 6 * ((kc + 1) + 1) + 6 * 1 ≤ 6 * 400; omega) dL_isSo_186 (fun w46 hpw46 _ => ?_)
        refine j_cs (c1 := (((kc + 1) + 1) + 1)) (s1 := 6 * (((kc + 1) + 1) + 1)) (w1 := w46) rfl (by omega) (ww _) ?_
        have hqw46 : Xw a g (cl + (((kc + 1) + 1) + 1)) r45.2 w46 := hpw46
        refine j_if_ge C h 203 (by decide) dL_isSo_189 (fun c53 h => ?_) (fun c53 h => ?_)
        · refine j_aload_n C 1 rfl rfl dL_isSo_203 ?_
          obtain ⟨hkr47, h⟩ := G_of h
          obtain ⟨r47, hr47, h⟩ := Ob_of h
          refine dj_cost C (u := []) (wc := w46) (v := []) hqw46 (by omega)  hr47 (ww _) C.2.2.2.2.2.2.1 (Nat.le_of_ble_eq_true rfl) (Nat.le_of_ble_eq_true rfl) (Nat.le_of_ble_eq_true rfl) hkr47 (by show 6 * (((kc + 1) + 1) + 1) + 6 * 1 ≤ 6 * 400; omega) dL_isSo_204 (fun w48 hpw48 _ => ?_)
          refine j_cs (c1 := ((((kc + 1) + 1) + 1) + 1)) (s1 := 6 * ((((kc + 1) + 1) + 1) + 1)) (w1 := w48) rfl (by omega) (ww _) ?_
          have hqw48 : Xw a g (cl + ((((kc + 1) + 1) + 1) + 1)) r47.2 w48 := hpw48
          refine j_if_ne C h 214 (by decide) dL_isSo_207 (fun c49 h => ?_) (fun c49 h => ?_)
          · refine j_lv [1, 2] rfl ?_
            exact J214 l1 r47.2 ((((kc + 1) + 1) + 1) + 1) w48 hqw48 h
          · refine j_lv [1, 2] rfl ?_
            exact J210 l1 r47.2 ((((kc + 1) + 1) + 1) + 1) w48 hqw48 h
        · refine j_aload_n C 1 rfl rfl dL_isSo_192 ?_
          obtain ⟨hkr50, h⟩ := G_of h
          obtain ⟨r50, hr50, h⟩ := Ob_of h
          refine dj_cost C (u := []) (wc := w46) (v := []) hqw46 (by omega)  hr50 (ww _) C.2.2.2.2.2.2.1 (Nat.le_of_ble_eq_true rfl) (Nat.le_of_ble_eq_true rfl) (Nat.le_of_ble_eq_true rfl) hkr50 (by show 6 * (((kc + 1) + 1) + 1) + 6 * 1 ≤ 6 * 400; omega) dL_isSo_193 (fun w51 hpw51 _ => ?_)
          refine j_cs (c1 := ((((kc + 1) + 1) + 1) + 1)) (s1 := 6 * ((((kc + 1) + 1) + 1) + 1)) (w1 := w51) rfl (by omega) (ww _) ?_
          have hqw51 : Xw a g (cl + ((((kc + 1) + 1) + 1) + 1)) r50.2 w51 := hpw51
          refine j_iconst C dL_isSo_196 ?_
          refine j_icmp_ne C h 214 (by decide) dL_isSo_197 (fun c52 h => ?_) (fun c52 h => ?_)
          · refine j_lv [1, 2] rfl ?_
            exact J214 l1 r50.2 ((((kc + 1) + 1) + 1) + 1) w51 hqw51 h
          · refine j_goto C 210 (by decide) dL_isSo_200 ?_
            refine j_lv [1, 2] rfl ?_
            exact J210 l1 r50.2 ((((kc + 1) + 1) + 1) + 1) w51 hqw51 h
  have J164 : ∀ (l1 : Int) (oA : AS) (kc : Nat) (wo : va_W) (Ho : Xw a g (cl + kc) oA wo), F_L_isSo_b164 l1 oA kc = some res → J p l e ({ frames := 10, cells := 400, slots := 2400, locals := 195 } : Room) s m args below meth c D A 10 Q kc (6 * kc) wo 164 [(0, .ref (a 0)), (1, .int (vI l1))] [] := by
    intro l1 oA kc wo Ho h
    unfold F_L_isSo_b164 at h
    refine j_iconst C dL_isSo_164 ?_
    exact J165 l1 0 oA kc wo Ho h
  have J160 : ∀ (l1 : Int) (oA : AS) (kc : Nat) (wo : va_W) (Ho : Xw a g (cl + kc) oA wo), F_L_isSo_b160 l1 oA kc = some res → J p l e ({ frames := 10, cells := 400, slots := 2400, locals := 195 } : Room) s m args below meth c D A 10 Q kc (6 * kc) wo 160 [(0, .ref (a 0)), (1, .int (vI l1))] [] := by
    intro l1 oA kc wo Ho h
    unfold F_L_isSo_b160 at h
    refine j_iconst C dL_isSo_160 ?_
    refine j_goto C 165 (by decide) dL_isSo_161 ?_
    exact J165 l1 1 oA kc wo Ho h
  have J111 : ∀ (l1 : Int) (l2 : Int) (l6 : Int) (oA : AS) (kc : Nat) (wo : va_W) (Ho : Xw a g (cl + kc) oA wo), F_L_isSo_b111 l1 l2 l6 oA kc = some res → J p l e ({ frames := 10, cells := 400, slots := 2400, locals := 195 } : Room) s m args below meth c D A 10 Q kc (6 * kc) wo 111 [(0, .ref (a 0)), (1, .int (vI l1)), (2, .int (vI l2)), (6, .int (vI l6))] [] := by
    intro l1 l2 l6 oA kc wo Ho h
    unfold F_L_isSo_b111 at h
    refine j_iload C 3 rfl dL_isSo_111 ?_
    refine j_bipush C (by decide) dL_isSo_113 ?_
    refine j_icmp_gt C h 164 (by decide) dL_isSo_115 (fun c71 h => ?_) (fun c71 h => ?_)
    · refine j_lv [0, 1] rfl ?_
      exact J164 l1 oA kc wo Ho h
    · refine j_iload_n C 2 rfl rfl dL_isSo_118 ?_
      refine j_if_lt C h 160 (by decide) dL_isSo_119 (fun c70 h => ?_) (fun c70 h => ?_)
      · refine j_lv [0, 1] rfl ?_
        exact J160 l1 oA kc wo Ho h
      · refine j_aload_n C 0 rfl rfl dL_isSo_122 ?_
        refine j_iconst C dL_isSo_123 ?_
        obtain ⟨hkr56, h⟩ := G_of h
        obtain ⟨r56, hr56, h⟩ := Ob_of h
        refine dj_graph C (u := []) (wc := wo) (v := []) Ho (by omega) (by decide) hr56 (ww _) C.2.2.2.2.2.2.1 (Nat.le_of_ble_eq_true rfl) (Nat.le_of_ble_eq_true rfl) (Nat.le_of_ble_eq_true rfl) hkr56 (by show 6 * kc + 6 * 1 ≤ 6 * 400; omega) dL_isSo_124 (fun w57 hpw57 _ => ?_)
        refine j_cs (c1 := (kc + 1)) (s1 := 6 * (kc + 1)) (w1 := w57) rfl (by omega) (ww _) ?_
        have hqw57 : Xw a g (cl + (kc + 1)) r56.2 w57 := hpw57
        refine j_iload_n C 2 rfl rfl dL_isSo_127 ?_
        refine j_icmp_gt C h 164 (by decide) dL_isSo_128 (fun c69 h => ?_) (fun c69 h => ?_)
        · refine j_lv [0, 1] rfl ?_
          exact J164 l1 r56.2 (kc + 1) w57 hqw57 h
        · refine j_aload_n C 0 rfl rfl dL_isSo_131 ?_
          refine j_iconst C dL_isSo_132 ?_
          obtain ⟨hkr58, h⟩ := G_of h
          obtain ⟨r58, hr58, h⟩ := Ob_of h
          refine dj_graph C (u := []) (wc := w57) (v := []) hqw57 (by omega) (by decide) hr58 (ww _) C.2.2.2.2.2.2.1 (Nat.le_of_ble_eq_true rfl) (Nat.le_of_ble_eq_true rfl) (Nat.le_of_ble_eq_true rfl) hkr58 (by show 6 * (kc + 1) + 6 * 1 ≤ 6 * 400; omega) dL_isSo_133 (fun w59 hpw59 _ => ?_)
          refine j_cs (c1 := ((kc + 1) + 1)) (s1 := 6 * ((kc + 1) + 1)) (w1 := w59) rfl (by omega) (ww _) ?_
          have hqw59 : Xw a g (cl + ((kc + 1) + 1)) r58.2 w59 := hpw59
          refine j_aload_n C 0 rfl rfl dL_isSo_136 ?_
          refine j_iconst C dL_isSo_137 ?_
          obtain ⟨hkr60, h⟩ := G_of h
          obtain ⟨r60, hr60, h⟩ := Ob_of h
          refine dj_graph C (u := []) (wc := w59) (v := []) hqw59 (by omega) (by decide) hr60 (ww _) C.2.2.2.2.2.2.1 (Nat.le_of_ble_eq_true rfl) (Nat.le_of_ble_eq_true rfl) (Nat.le_of_ble_eq_true rfl) hkr60 (by show 6 * ((kc + 1) + 1) + 6 * 1 ≤ 6 * 400; omega) dL_isSo_138 (fun w61 hpw61 _ => ?_)
          refine j_cs (c1 := (((kc + 1) + 1) + 1)) (s1 := 6 * (((kc + 1) + 1) + 1)) (w1 := w61) rfl (by omega) (ww _) ?_
          have hqw61 : Xw a g (cl + (((kc + 1) + 1) + 1)) r60.2 w61 := hpw61
          refine j_iconst C dL_isSo_141 ?_
          refine j_isub C dL_isSo_142 ?_
          refine j_nm h (fun v62 h => ?_)
          refine j_icmp_lt C h 164 (by decide) dL_isSo_143 (fun c68 h => ?_) (fun c68 h => ?_)
          · refine j_lv [0, 1] rfl ?_
            exact J164 l1 r60.2 (((kc + 1) + 1) + 1) w61 hqw61 h
          · refine j_aload_n C 0 rfl rfl dL_isSo_146 ?_
            refine j_iconst C dL_isSo_147 ?_
            refine j_iconst C dL_isSo_148 ?_
            obtain ⟨hkr63, h⟩ := G_of h
            obtain ⟨r63, hr63, h⟩ := Ob_of h
            refine dj_marking C (u := []) (wc := w61) (v := []) hqw61 (by omega) (by decide) (by decide) hr63 (ww _) C.2.2.2.2.2.2.1 (Nat.le_of_ble_eq_true rfl) (Nat.le_of_ble_eq_true rfl) (Nat.le_of_ble_eq_true rfl) hkr63 (by show 6 * (((kc + 1) + 1) + 1) + 6 * 1 ≤ 6 * 400; omega) dL_isSo_149 (fun w64 hpw64 _ => ?_)
            refine j_cs (c1 := ((((kc + 1) + 1) + 1) + 1)) (s1 := 6 * ((((kc + 1) + 1) + 1) + 1)) (w1 := w64) rfl (by omega) (ww _) ?_
            have hqw64 : Xw a g (cl + ((((kc + 1) + 1) + 1) + 1)) r63.2 w64 := hpw64
            refine j_aload_n C 0 rfl rfl dL_isSo_152 ?_
            refine j_iconst C dL_isSo_153 ?_
            obtain ⟨hkr65, h⟩ := G_of h
            obtain ⟨r65, hr65, h⟩ := Ob_of h
            refine dj_tokens C (u := []) (wc := w64) (v := []) hqw64 (by omega) (by decide) hr65 (ww _) C.2.2.2.2.2.2.1 (Nat.le_of_ble_eq_true rfl) (Nat.le_of_ble_eq_true rfl) (Nat.le_of_ble_eq_true rfl) hkr65 (by show 6 * ((((kc + 1) + 1) + 1) + 1) + 6 * 1 ≤ 6 * 400; omega) dL_isSo_154 (fun w66 hpw66 _ => ?_)
            refine j_cs (c1 := (((((kc + 1) + 1) + 1) + 1) + 1)) (s1 := 6 * (((((kc + 1) + 1) + 1) + 1) + 1)) (w1 := w66) rfl (by omega) (ww _) ?_
            have hqw66 : Xw a g (cl + (((((kc + 1) + 1) + 1) + 1) + 1)) r65.2 w66 := hpw66
            refine j_icmp_ne C h 164 (by decide) dL_isSo_157 (fun c67 h => ?_) (fun c67 h => ?_)
            · refine j_lv [0, 1] rfl ?_
              exact J164 l1 r65.2 (((((kc + 1) + 1) + 1) + 1) + 1) w66 hqw66 h
            · refine j_lv [0, 1] rfl ?_
              exact J160 l1 r65.2 (((((kc + 1) + 1) + 1) + 1) + 1) w66 hqw66 h
  have J74 : ∀ (n : Nat) (l1 : Int) (l2 : Int) (l4 : Int) (l5 : Int) (l6 : Int) (oA : AS) (kc : Nat) (wo : va_W) (Ho : Xw a g (cl + kc) oA wo), F_L_isSo_b74 n l1 l2 l4 l5 l6 oA kc = some res → J p l e ({ frames := 10, cells := 400, slots := 2400, locals := 195 } : Room) s m args below meth c D A 10 Q kc (6 * kc) wo 74 [(0, .ref (a 0)), (1, .int (vI l1)), (2, .int (vI l2)), (4, .int (vI l4)), (5, .int (vI l5)), (6, .int (vI l6))] [] := by
    intro n
    induction n with
    | zero => intro l1 l2 l4 l5 l6 oA kc wo Ho h; exact no_h h
    | succ n ih74 =>
      intro l1 l2 l4 l5 l6 oA kc wo Ho h
      replace h : F_L_isSo_b74_body (F_L_isSo_b74 n) l1 l2 l4 l5 l6 oA kc = some res := h
      generalize F_L_isSo_b74 n = ag74 at ih74 h
      unfold F_L_isSo_b74_body at h
      refine j_aload_n C 0 rfl rfl dL_isSo_74 ?_
      refine j_iconst C dL_isSo_75 ?_
      obtain ⟨hkr72, h⟩ := G_of h
      obtain ⟨r72, hr72, h⟩ := Ob_of h
      refine j_callE C T (u := []) (wc := wo) (v := []) (wr_log l D a g hl (cl + kc) oA wo Ho (by omega) 0 (by decide) r72 hr72) w769 w770 w0 w771 (n := 2) (by decide +kernel) ⟨(Nat.le_of_ble_eq_true rfl), (Nat.le_of_ble_eq_true rfl)⟩ rfl rfl rfl (ww _) C.2.2.2.2.2.2.1 (Nat.le_of_ble_eq_true rfl) rfl hkr72 (by show 6 * kc + 6 * 1 ≤ 6 * 400; omega) dL_isSo_76 (fun w73 hpw73 _ => ?_)
      refine j_cs (c1 := (kc + 1)) (s1 := 6 * (kc + 1)) (w1 := w73) rfl (by omega) (ww _) ?_
      have hqw73 : Xw a g (cl + (kc + 1)) r72.2 w73 := hpw73
      refine j_if_le C h 88 (by decide) dL_isSo_79 (fun c81 h => ?_) (fun c81 h => ?_)
      · refine j_iload C 4 rfl dL_isSo_88 ?_
        refine j_if_eq C h 164 (by decide) dL_isSo_90 (fun c79 h => ?_) (fun c79 h => ?_)
        · refine j_lv [0, 1] rfl ?_
          exact J164 l1 r72.2 (kc + 1) w73 hqw73 h
        · refine j_aload_n C 0 rfl rfl dL_isSo_93 ?_
          obtain ⟨hkr74, h⟩ := G_of h
          obtain ⟨r74, hr74, h⟩ := Ob_of h
          refine j_callE C T (u := []) (wc := w73) (v := []) (wr_firing l D a g hl (cl + (kc + 1)) r72.2 w73 hqw73 (by omega)  r74 hr74) w393 w394 w0 w395 (n := 1) (by decide +kernel) ⟨(Nat.le_of_ble_eq_true rfl), (Nat.le_of_ble_eq_true rfl)⟩ rfl rfl rfl (ww _) C.2.2.2.2.2.2.1 (Nat.le_of_ble_eq_true rfl) rfl hkr74 (by show 6 * (kc + 1) + 6 * 1 ≤ 6 * 400; omega) dL_isSo_94 (fun w75 hpw75 _ => ?_)
          refine j_cs (c1 := ((kc + 1) + 1)) (s1 := 6 * ((kc + 1) + 1)) (w1 := w75) rfl (by omega) (ww _) ?_
          have hqw75 : Xw a g (cl + ((kc + 1) + 1)) r74.2 w75 := hpw75
          refine j_if_lt C h 111 (by decide) dL_isSo_97 (fun c78 h => ?_) (fun c78 h => ?_)
          · refine j_lv [0, 1, 2, 5] rfl ?_
            exact J111 l1 l2 l6 r74.2 ((kc + 1) + 1) w75 hqw75 h
          · refine j_iload_n C 2 rfl rfl dL_isSo_100 ?_
            refine j_if_lt C h 111 (by decide) dL_isSo_101 (fun c77 h => ?_) (fun c77 h => ?_)
            · refine j_lv [0, 1, 2, 5] rfl ?_
              exact J111 l1 l2 l6 r74.2 ((kc + 1) + 1) w75 hqw75 h
            · refine j_iload C 3 rfl dL_isSo_104 ?_
              refine j_bipush C (by decide) dL_isSo_106 ?_
              refine j_icmp_gt C h 164 (by decide) dL_isSo_108 (fun c76 h => ?_) (fun c76 h => ?_)
              · refine j_lv [0, 1] rfl ?_
                exact J164 l1 r74.2 ((kc + 1) + 1) w75 hqw75 h
              · refine j_lv [0, 1, 2, 5] rfl ?_
                exact J111 l1 l2 l6 r74.2 ((kc + 1) + 1) w75 hqw75 h
      · refine j_iinc C 5 rfl (fun v => [(6, .int (vI v)), (0, .ref (a 0)), (1, .int (vI l1)), (2, .int (vI l2)), (4, .int (vI l4)), (5, .int (vI l5))]) (fun _ => rfl) (by decide) h dL_isSo_82 (fun v80 h => ?_)
        refine j_goto C 74 (by decide) dL_isSo_85 ?_
        refine j_lv [1, 2, 3, 4, 5, 0] rfl ?_
        exact ih74 l1 l2 l4 l5 v80 r72.2 (kc + 1) w73 hqw73 h
  have J69 : ∀ (l1 : Int) (l2 : Int) (l4 : Int) (s0 : Int) (oA : AS) (kc : Nat) (wo : va_W) (Ho : Xw a g (cl + kc) oA wo), F_L_isSo_b69 l1 l2 l4 s0 oA kc = some res → J p l e ({ frames := 10, cells := 400, slots := 2400, locals := 195 } : Room) s m args below meth c D A 10 Q kc (6 * kc) wo 69 [(0, .ref (a 0)), (1, .int (vI l1)), (2, .int (vI l2)), (4, .int (vI l4))] [.int (vI s0)] := by
    intro l1 l2 l4 s0 oA kc wo Ho h
    unfold F_L_isSo_b69 at h
    refine j_istore C [(5, .int (vI s0)), (0, .ref (a 0)), (1, .int (vI l1)), (2, .int (vI l2)), (4, .int (vI l4))] rfl (by decide) dL_isSo_69 ?_
    refine j_iconst C dL_isSo_71 ?_
    refine j_istore C [(6, .int (vI 0)), (5, .int (vI s0)), (0, .ref (a 0)), (1, .int (vI l1)), (2, .int (vI l2)), (4, .int (vI l4))] rfl (by decide) dL_isSo_72 ?_
    refine j_lv [2, 3, 4, 5, 1, 0] rfl ?_
    exact J74 NN l1 l2 l4 s0 0 oA kc wo Ho h
  have J68 : ∀ (l1 : Int) (l2 : Int) (l4 : Int) (oA : AS) (kc : Nat) (wo : va_W) (Ho : Xw a g (cl + kc) oA wo), F_L_isSo_b68 l1 l2 l4 oA kc = some res → J p l e ({ frames := 10, cells := 400, slots := 2400, locals := 195 } : Room) s m args below meth c D A 10 Q kc (6 * kc) wo 68 [(0, .ref (a 0)), (1, .int (vI l1)), (2, .int (vI l2)), (4, .int (vI l4))] [] := by
    intro l1 l2 l4 oA kc wo Ho h
    unfold F_L_isSo_b68 at h
    refine j_iconst C dL_isSo_68 ?_
    exact J69 l1 l2 l4 0 oA kc wo Ho h
  have J43 : ∀ (l1 : Int) (l2 : Int) (l3 : Int) (l4 : Int) (s0 : Int) (s1 : Int) (oA : AS) (kc : Nat) (wo : va_W) (Ho : Xw a g (cl + kc) oA wo), F_L_isSo_b43 l1 l2 l3 l4 s0 s1 oA kc = some res → J p l e ({ frames := 10, cells := 400, slots := 2400, locals := 195 } : Room) s m args below meth c D A 10 Q kc (6 * kc) wo 43 [(0, .ref (a 0)), (1, .int (vI l1)), (2, .int (vI l2)), (3, .int (vI l3)), (4, .int (vI l4))] [.int (vI s1), .int (vI s0)] := by
    intro l1 l2 l3 l4 s0 s1 oA kc wo Ho h
    unfold F_L_isSo_b43 at h
    refine j_icmp_ne C h 68 (by decide) dL_isSo_43 (fun c87 h => ?_) (fun c87 h => ?_)
    · refine j_lv [0, 1, 2, 4] rfl ?_
      exact J68 l1 l2 l4 oA kc wo Ho h
    · refine j_aload_n C 0 rfl rfl dL_isSo_46 ?_
      refine j_iconst C dL_isSo_47 ?_
      obtain ⟨hkr82, h⟩ := G_of h
      obtain ⟨r82, hr82, h⟩ := Ob_of h
      refine dj_trap C (u := []) (wc := wo) (v := []) Ho (by omega) (by decide) hr82 (ww _) C.2.2.2.2.2.2.1 (Nat.le_of_ble_eq_true rfl) (Nat.le_of_ble_eq_true rfl) (Nat.le_of_ble_eq_true rfl) hkr82 (by show 6 * kc + 6 * 1 ≤ 6 * 400; omega) dL_isSo_48 (fun w83 hpw83 _ => ?_)
      refine j_cs (c1 := (kc + 1)) (s1 := 6 * (kc + 1)) (w1 := w83) rfl (by omega) (ww _) ?_
      have hqw83 : Xw a g (cl + (kc + 1)) r82.2 w83 := hpw83
      refine j_if_ne C h 68 (by decide) dL_isSo_51 (fun c86 h => ?_) (fun c86 h => ?_)
      · refine j_lv [0, 1, 2, 4] rfl ?_
        exact J68 l1 l2 l4 r82.2 (kc + 1) w83 hqw83 h
      · refine j_iload_n C 3 rfl rfl dL_isSo_54 ?_
        refine j_if_lt C h 68 (by decide) dL_isSo_55 (fun c85 h => ?_) (fun c85 h => ?_)
        · refine j_lv [0, 1, 2, 4] rfl ?_
          exact J68 l1 l2 l4 r82.2 (kc + 1) w83 hqw83 h
        · refine j_iload_n C 3 rfl rfl dL_isSo_58 ?_
          refine j_bipush C (by decide) dL_isSo_59 ?_
          refine j_icmp_gt C h 68 (by decide) dL_isSo_61 (fun c84 h => ?_) (fun c84 h => ?_)
          · refine j_lv [0, 1, 2, 4] rfl ?_
            exact J68 l1 l2 l4 r82.2 (kc + 1) w83 hqw83 h
          · refine j_iconst C dL_isSo_64 ?_
            refine j_goto C 69 (by decide) dL_isSo_65 ?_
            refine j_lv [0, 1, 2, 4] rfl ?_
            exact J69 l1 l2 l4 1 r82.2 (kc + 1) w83 hqw83 h
  have J33 : ∀ (l1 : Int) (l2 : Int) (l3 : Int) (l4 : Int) (s0 : Int) (oA : AS) (kc : Nat) (wo : va_W) (Ho : Xw a g (cl + kc) oA wo), F_L_isSo_b33 l1 l2 l3 l4 s0 oA kc = some res → J p l e ({ frames := 10, cells := 400, slots := 2400, locals := 195 } : Room) s m args below meth c D A 10 Q kc (6 * kc) wo 33 [(0, .ref (a 0)), (1, .int (vI l1)), (2, .int (vI l2)), (3, .int (vI l3)), (4, .int (vI l4))] [.int (vI s0)] := by
    intro l1 l2 l3 l4 s0 oA kc wo Ho h
    unfold F_L_isSo_b33 at h
    refine j_iload C 4 rfl dL_isSo_33 ?_
    refine j_if_ge C h 42 (by decide) dL_isSo_35 (fun c88 h => ?_) (fun c88 h => ?_)
    · refine j_iconst C dL_isSo_42 ?_
      exact J43 l1 l2 l3 l4 s0 0 oA kc wo Ho h
    · refine j_iconst C dL_isSo_38 ?_
      refine j_goto C 43 (by decide) dL_isSo_39 ?_
      exact J43 l1 l2 l3 l4 s0 1 oA kc wo Ho h
  unfold F_L_isSo at h
  refine j_aload_n C 0 rfl rfl dL_isSo_0 ?_
  refine j_iconst C dL_isSo_1 ?_
  obtain ⟨hkr89, h⟩ := G_of h
  obtain ⟨r89, hr89, h⟩ := Ob_of h
  refine dj_graph C (u := []) (wc := wo) (v := []) Ho (by omega) (by decide) hr89 (ww _) C.2.2.2.2.2.2.1 (Nat.le_of_ble_eq_true rfl) (Nat.le_of_ble_eq_true rfl) (Nat.le_of_ble_eq_true rfl) hkr89 (by show 6 * kc + 6 * 1 ≤ 6 * 400; omega) dL_isSo_2 (fun w90 hpw90 _ => ?_)
  refine j_cs (c1 := (kc + 1)) (s1 := 6 * (kc + 1)) (w1 := w90) rfl (by omega) (ww _) ?_
  have hqw90 : Xw a g (cl + (kc + 1)) r89.2 w90 := hpw90
  refine j_istore_n C [(2, .int (vI r89.1)), (0, .ref (a 0)), (1, .int (vI x1))] rfl rfl (by decide) dL_isSo_5 ?_
  refine j_aload_n C 1 rfl rfl dL_isSo_6 ?_
  obtain ⟨hkr91, h⟩ := G_of h
  obtain ⟨r91, hr91, h⟩ := Ob_of h
  refine dj_goes C (u := []) (wc := w90) (v := []) hqw90 (by omega)  hr91 (ww _) C.2.2.2.2.2.2.1 (Nat.le_of_ble_eq_true rfl) (Nat.le_of_ble_eq_true rfl) (Nat.le_of_ble_eq_true rfl) hkr91 (by show 6 * (kc + 1) + 6 * 1 ≤ 6 * 400; omega) dL_isSo_7 (fun w92 hpw92 _ => ?_)
  refine j_cs (c1 := ((kc + 1) + 1)) (s1 := 6 * ((kc + 1) + 1)) (w1 := w92) rfl (by omega) (ww _) ?_
  have hqw92 : Xw a g (cl + ((kc + 1) + 1)) r91.2 w92 := hpw92
  refine j_istore_n C [(3, .int (vI r91.1)), (2, .int (vI r89.1)), (0, .ref (a 0)), (1, .int (vI x1))] rfl rfl (by decide) dL_isSo_10 ?_
  refine j_aload_n C 2 rfl rfl dL_isSo_11 ?_
  obtain ⟨hkr93, h⟩ := G_of h
  obtain ⟨r93, hr93, h⟩ := Ob_of h
  refine dj_cost C (u := []) (wc := w92) (v := []) hqw92 (by omega)  hr93 (ww _) C.2.2.2.2.2.2.1 (Nat.le_of_ble_eq_true rfl) (Nat.le_of_ble_eq_true rfl) (Nat.le_of_ble_eq_true rfl) hkr93 (by show 6 * ((kc + 1) + 1) + 6 * 1 ≤ 6 * 400; omega) dL_isSo_12 (fun w94 hpw94 _ => ?_)
  refine j_cs (c1 := (((kc + 1) + 1) + 1)) (s1 := 6 * (((kc + 1) + 1) + 1)) (w1 := w94) rfl (by omega) (ww _) ?_
  have hqw94 : Xw a g (cl + (((kc + 1) + 1) + 1)) r93.2 w94 := hpw94
  refine j_istore C [(4, .int (vI r93.1)), (3, .int (vI r91.1)), (2, .int (vI r89.1)), (0, .ref (a 0)), (1, .int (vI x1))] rfl (by decide) dL_isSo_15 ?_
  refine j_aload_n C 3 rfl rfl dL_isSo_17 ?_
  obtain ⟨hkr95, h⟩ := G_of h
  obtain ⟨r95, hr95, h⟩ := Ob_of h
  refine dj_keeps C (u := []) (wc := w94) (v := []) hqw94 (by omega)  hr95 (ww _) C.2.2.2.2.2.2.1 (Nat.le_of_ble_eq_true rfl) (Nat.le_of_ble_eq_true rfl) (Nat.le_of_ble_eq_true rfl) hkr95 (by show 6 * (((kc + 1) + 1) + 1) + 6 * 1 ≤ 6 * 400; omega) dL_isSo_18 (fun w96 hpw96 _ => ?_)
  refine j_cs (c1 := ((((kc + 1) + 1) + 1) + 1)) (s1 := 6 * ((((kc + 1) + 1) + 1) + 1)) (w1 := w96) rfl (by omega) (ww _) ?_
  have hqw96 : Xw a g (cl + ((((kc + 1) + 1) + 1) + 1)) r95.2 w96 := hpw96
  refine j_if_eq C h 68 (by decide) dL_isSo_21 (fun c98 h => ?_) (fun c98 h => ?_)
  · refine j_lv [3, 4, 2, 0] rfl ?_
    exact J68 x1 r89.1 r93.1 r95.2 ((((kc + 1) + 1) + 1) + 1) w96 hqw96 h
  · refine j_iload_n C 2 rfl rfl dL_isSo_24 ?_
    refine j_if_ge C h 32 (by decide) dL_isSo_25 (fun c97 h => ?_) (fun c97 h => ?_)
    · refine j_iconst C dL_isSo_32 ?_
      refine j_lv [3, 4, 2, 1, 0] rfl ?_
      exact J33 x1 r89.1 r91.1 r93.1 0 r95.2 ((((kc + 1) + 1) + 1) + 1) w96 hqw96 h
    · refine j_iconst C dL_isSo_28 ?_
      refine j_goto C 33 (by decide) dL_isSo_29 ?_
      refine j_lv [3, 4, 2, 1, 0] rfl ?_
      exact J33 x1 r89.1 r91.1 r93.1 1 r95.2 ((((kc + 1) + 1) + 1) + 1) w96 hqw96 h
set_option maxRecDepth 100000 in
theorem c_L_isSo (l : Launch) (D : va_G) (a : Nat → Nat) (g : Nat → ClassId) (hl : l.stackTraces = false) (cl : Nat) (hcl : cl + 400 ≤ 900000) (oA : AS) (wo : va_W) (Ho : Xw a g cl oA wo) (x1 : Int) (res : Int × AS × Nat) (h : F_L_isSo x1 oA 0 = some res) : Ke l yL_isSo (Cond.code yL_isSo cL_isSo 10 (some .boolean)) ({ frames := 10, cells := 400, slots := 2400, locals := 195 } : Room) D (xT g) [.ref (a 0), .int (vI x1)] wo (fun w => Xw a g (cl + 400) res.2.1 w) res.1 400 (6 * 400) :=
  kz_of rfl (by decide +kernel) (Nat.le_of_ble_eq_true rfl) (fun {p} {e} {s} {m} {args} {below} {meth} {c} {A} {Q} C T RET => k_L_isSo C T hl cl hcl x1 oA 0 wo Ho res h (fun w1 pc lv H1 hkc hz hd => RET _ pc lv (Xw_le (by omega) H1) (Xw_ha H1 Ho) hz hd))
end WK
