section WK
variable {p : Program} {l : Launch} {e : Env} {s : State} {m : MethodId} {args : Array Value} {below : List Frame} {meth : Method} {c : Code} {D : va_G} {A : Nat → Prop} {Q : State → Prop}
set_option maxRecDepth 100000 in
set_option maxHeartbeats 8000000 in
theorem k_L_isWaySo {a : Nat → Nat} {g : Nat → ClassId} (C : JC p s m args meth c cL_isWaySo 8 "MarkingHallLaw" D (xT g) A) (T : TT A s) (hl : l.stackTraces = false) (cl : Nat) (hcl : cl + 100 ≤ 900000) (x1 : Int) (x2 : Int) (oA : AS) (kc : Nat) (wo : va_W) (Ho : Xw a g (cl + kc) oA wo) (res : Int × AS × Nat) (h : F_L_isWaySo x1 x2 oA kc = some res) (RET : ∀ (wo : va_W) (pc : Nat) (lv : List (Nat × Value)) (Ho : Xw a g (cl + res.2.2) res.2.1 wo), res.2.2 ≤ 100 → (res.1 = 0 ∨ res.1 = 1) → decode cL_isWaySo pc = .ok (.ireturn, 1) → J p l e ({ frames := 9, cells := 100, slots := 600, locals := 168 } : Room) s m args below meth c D A 8 Q 100 (6 * 100) wo pc lv [.int (vI res.1)]) : J p l e ({ frames := 9, cells := 100, slots := 600, locals := 168 } : Room) s m args below meth c D A 8 Q kc (6 * kc) wo 0 [(0, .ref (a 0)), (1, .int (vI x1)), (2, .int (vI x2))] [] := by
  have J217 : ∀ (l5 : Int) (oA : AS) (kc : Nat) (wo : va_W) (Ho : Xw a g (cl + kc) oA wo), F_L_isWaySo_b217 l5 oA kc = some res → J p l e ({ frames := 9, cells := 100, slots := 600, locals := 168 } : Room) s m args below meth c D A 8 Q kc (6 * kc) wo 217 [(5, .int (vI l5))] [] := by
    intro l5 oA kc wo Ho h
    unfold F_L_isWaySo_b217 at h
    refine j_iload C 0 rfl dL_isWaySo_217 ?_
    obtain ⟨hkc, h⟩ := G_of h
    obtain ⟨hz, h⟩ := G_of h
    cases h
    refine j_wide hkc (Nat.mul_le_mul_left 6 hkc) ?_
    exact RET wo _ _ Ho hkc hz dL_isWaySo_219
  have J100 : ∀ (n : Nat) (l1 : Int) (l2 : Int) (l3 : Int) (l5 : Int) (l6 : Int) (oA : AS) (kc : Nat) (wo : va_W) (Ho : Xw a g (cl + kc) oA wo), F_L_isWaySo_b100 n l1 l2 l3 l5 l6 oA kc = some res → J p l e ({ frames := 9, cells := 100, slots := 600, locals := 168 } : Room) s m args below meth c D A 8 Q kc (6 * kc) wo 100 [(0, .ref (a 0)), (1, .int (vI l1)), (2, .int (vI l2)), (3, .int (vI l3)), (5, .int (vI l5)), (6, .int (vI l6))] [] := by
    intro n
    induction n with
    | zero => intro l1 l2 l3 l5 l6 oA kc wo Ho h; exact no_h h
    | succ n ih100 =>
      intro l1 l2 l3 l5 l6 oA kc wo Ho h
      replace h : F_L_isWaySo_b100_body (F_L_isWaySo_b100 n) l1 l2 l3 l5 l6 oA kc = some res := h
      generalize F_L_isWaySo_b100 n = ag100 at ih100 h
      have J211 : ∀ (l1 : Int) (l2 : Int) (l3 : Int) (l5 : Int) (l6 : Int) (oA : AS) (kc : Nat) (wo : va_W) (Ho : Xw a g (cl + kc) oA wo), F_L_isWaySo_b211 ag100 l1 l2 l3 l5 l6 oA kc = some res → J p l e ({ frames := 9, cells := 100, slots := 600, locals := 168 } : Room) s m args below meth c D A 8 Q kc (6 * kc) wo 211 [(0, .ref (a 0)), (1, .int (vI l1)), (2, .int (vI l2)), (3, .int (vI l3)), (5, .int (vI l5)), (6, .int (vI l6))] [] := by
        intro l1 l2 l3 l5 l6 oA kc wo Ho h
        unfold F_L_isWaySo_b211 at h
        refine j_iinc C 5 rfl (fun v => [(6, .int (vI v)), (0, .ref (a 0)), (1, .int (vI l1)), (2, .int (vI l2)), (3, .int (vI l3)), (5, .int (vI l5))]) (fun _ => rfl) (by decide) h dL_isWaySo_211 (fun v1 h => ?_)
        refine j_goto C 100 (by decide) dL_isWaySo_214 ?_
        refine j_lv [1, 2, 3, 4, 5, 0] rfl ?_
        exact ih100 l1 l2 l3 l5 v1 oA kc wo Ho h
      have J202 : ∀ (l1 : Int) (l2 : Int) (l6 : Int) (s0 : Int) (oA : AS) (kc : Nat) (wo : va_W) (Ho : Xw a g (cl + kc) oA wo), F_L_isWaySo_b202 ag100 l1 l2 l6 s0 oA kc = some res → J p l e ({ frames := 9, cells := 100, slots := 600, locals := 168 } : Room) s m args below meth c D A 8 Q kc (6 * kc) wo 202 [(0, .ref (a 0)), (1, .int (vI l1)), (2, .int (vI l2)), (6, .int (vI l6))] [.int (vI s0)] := by
        intro l1 l2 l6 s0 oA kc wo Ho h
        unfold F_L_isWaySo_b202 at h
        refine j_istore C [(5, .int (vI s0)), (0, .ref (a 0)), (1, .int (vI l1)), (2, .int (vI l2)), (6, .int (vI l6))] rfl (by decide) dL_isWaySo_202 ?_
        refine j_aload_n C 1 rfl rfl dL_isWaySo_204 ?_
        refine j_iload_n C 2 rfl rfl dL_isWaySo_205 ?_
        refine j_iload_n C 3 rfl rfl dL_isWaySo_206 ?_
        obtain ⟨hkr2, h⟩ := G_of h
        obtain ⟨r2, hr2, h⟩ := Ob_of h
        refine J.eq (st' := [.int (vI (sx l2)), .int (vI (sx l1)), .ref (a 0)]) (by first | (simp only [sx_v]; done) | (simp only [sx_v]; rfl)) ?_
        refine j_callE C T (u := []) (wc := wo) (v := []) (wr_way l D a g hl (cl + kc) oA wo Ho (by omega) (sx l1) (sx l2) (sx_in _) (sx_in _) r2 hr2) w573 w574 w0 w575 (n := 3) (by decide +kernel) ⟨(Nat.le_of_ble_eq_true rfl), (Nat.le_of_ble_eq_true rfl)⟩ rfl rfl rfl (ww _) C.2.2.2.2.2.2.1 (Nat.le_of_ble_eq_true rfl) rfl hkr2 (by show 6 * kc + 6 * 1 ≤ 6 * 100; omega) dL_isWaySo_207 (fun w3 hpw3 _ => ?_)
        refine j_cs (c1 := (kc + 1)) (s1 := 6 * (kc + 1)) (w1 := w3) rfl (by omega) (ww _) ?_
        have hqw3 : Xw a g (cl + (kc + 1)) r2.2 w3 := hpw3
        refine j_istore_n C [(3, .int (vI r2.1)), (5, .int (vI s0)), (0, .ref (a 0)), (1, .int (vI l1)), (2, .int (vI l2)), (6, .int (vI l6))] rfl rfl (by decide) dL_isWaySo_210 ?_
        refine j_lv [2, 3, 4, 0, 1, 5] rfl ?_
        exact J211 l1 l2 r2.1 s0 l6 r2.2 (kc + 1) w3 hqw3 h
      have J197 : ∀ (l1 : Int) (l2 : Int) (l6 : Int) (oA : AS) (kc : Nat) (wo : va_W) (Ho : Xw a g (cl + kc) oA wo), F_L_isWaySo_b197 ag100 l1 l2 l6 oA kc = some res → J p l e ({ frames := 9, cells := 100, slots := 600, locals := 168 } : Room) s m args below meth c D A 8 Q kc (6 * kc) wo 197 [(0, .ref (a 0)), (1, .int (vI l1)), (2, .int (vI l2)), (6, .int (vI l6))] [] := by
        intro l1 l2 l6 oA kc wo Ho h
        unfold F_L_isWaySo_b197 at h
        refine j_iconst C dL_isWaySo_197 ?_
        refine j_goto C 202 (by decide) dL_isWaySo_198 ?_
        exact J202 l1 l2 l6 1 oA kc wo Ho h
      have J158 : ∀ (l1 : Int) (l2 : Int) (l3 : Int) (l6 : Int) (l7 : Int) (s0 : Int) (oA : AS) (kc : Nat) (wo : va_W) (Ho : Xw a g (cl + kc) oA wo), F_L_isWaySo_b158 ag100 l1 l2 l3 l6 l7 s0 oA kc = some res → J p l e ({ frames := 9, cells := 100, slots := 600, locals := 168 } : Room) s m args below meth c D A 8 Q kc (6 * kc) wo 158 [(0, .ref (a 0)), (1, .int (vI l1)), (2, .int (vI l2)), (3, .int (vI l3)), (6, .int (vI l6)), (7, .int (vI l7))] [.int (vI s0)] := by
        intro l1 l2 l3 l6 l7 s0 oA kc wo Ho h
        unfold F_L_isWaySo_b158 at h
        refine j_istore C [(5, .int (vI s0)), (0, .ref (a 0)), (1, .int (vI l1)), (2, .int (vI l2)), (3, .int (vI l3)), (6, .int (vI l6)), (7, .int (vI l7))] rfl (by decide) dL_isWaySo_158 ?_
        refine j_iload C 0 rfl dL_isWaySo_160 ?_
        refine j_if_eq C h 211 (by decide) dL_isWaySo_162 (fun c14 h => ?_) (fun c14 h => ?_)
        · refine j_lv [1, 2, 3, 4, 0, 5] rfl ?_
          exact J211 l1 l2 l3 s0 l6 oA kc wo Ho h
        · refine j_iload_n C 4 rfl rfl dL_isWaySo_165 ?_
          refine j_if_le C h 211 (by decide) dL_isWaySo_166 (fun c13 h => ?_) (fun c13 h => ?_)
          · refine j_lv [1, 2, 3, 4, 0, 5] rfl ?_
            exact J211 l1 l2 l3 s0 l6 oA kc wo Ho h
          · refine j_aload_n C 1 rfl rfl dL_isWaySo_169 ?_
            refine j_iload C 6 rfl dL_isWaySo_170 ?_
            obtain ⟨hkr4, h⟩ := G_of h
            obtain ⟨r4, hr4, h⟩ := Ob_of h
            refine J.eq (st' := [.int (vI (sx l7)), .ref (a 0)]) (by first | (simp only [sx_v]; done) | (simp only [sx_v]; rfl)) ?_
            refine dj_fire C (u := []) (wc := wo) (v := []) Ho (by omega) (sx_in _) hr4 (ww _) C.2.2.2.2.2.2.1 (Nat.le_of_ble_eq_true rfl) (Nat.le_of_ble_eq_true rfl) (Nat.le_of_ble_eq_true rfl) hkr4 (by show 6 * kc + 6 * 1 ≤ 6 * 100; omega) dL_isWaySo_172 (fun w5 hpw5 _ => ?_)
            refine j_cs (c1 := (kc + 1)) (s1 := 6 * (kc + 1)) (w1 := w5) rfl (by omega) (ww _) ?_
            have hqw5 : Xw a g (cl + (kc + 1)) r4.2 w5 := hpw5
            refine j_pop C rfl dL_isWaySo_175 ?_
            refine j_iinc C 4 rfl (fun v => [(3, .int (vI v)), (5, .int (vI s0)), (0, .ref (a 0)), (1, .int (vI l1)), (2, .int (vI l2)), (6, .int (vI l6)), (7, .int (vI l7))]) (fun _ => rfl) (by decide) h dL_isWaySo_176 (fun v6 h => ?_)
            refine j_aload_n C 2 rfl rfl dL_isWaySo_179 ?_
            refine j_iload_n C 3 rfl rfl dL_isWaySo_180 ?_
            refine j_iload_n C 4 rfl rfl dL_isWaySo_181 ?_
            obtain ⟨hkr7, h⟩ := G_of h
            obtain ⟨r7, hr7, h⟩ := Ob_of h
            refine J.eq (st' := [.int (vI (sx l2)), .int (vI (sx l1)), .ref (a 0)]) (by first | (simp only [sx_v]; done) | (simp only [sx_v]; rfl)) ?_
            refine j_callE C T (u := []) (wc := w5) (v := []) (wr_way l D a g hl (cl + (kc + 1)) r4.2 w5 hqw5 (by omega) (sx l1) (sx l2) (sx_in _) (sx_in _) r7 hr7) w573 w574 w0 w575 (n := 3) (by decide +kernel) ⟨(Nat.le_of_ble_eq_true rfl), (Nat.le_of_ble_eq_true rfl)⟩ rfl rfl rfl (ww _) C.2.2.2.2.2.2.1 (Nat.le_of_ble_eq_true rfl) rfl hkr7 (by show 6 * (kc + 1) + 6 * 1 ≤ 6 * 100; omega) dL_isWaySo_182 (fun w8 hpw8 _ => ?_)
            refine j_cs (c1 := ((kc + 1) + 1)) (s1 := 6 * ((kc + 1) + 1)) (w1 := w8) rfl (by omega) (ww _) ?_
            have hqw8 : Xw a g (cl + ((kc + 1) + 1)) r7.2 w8 := hpw8
            refine j_iload_n C 0 rfl rfl dL_isWaySo_185 ?_
            refine j_icmp_le C h 197 (by decide) dL_isWaySo_186 (fun c12 h => ?_) (fun c12 h => ?_)
            · refine j_lv [2, 3, 4, 5] rfl ?_
              exact J197 l1 l2 l6 r7.2 ((kc + 1) + 1) w8 hqw8 h
            · refine j_aload_n C 2 rfl rfl dL_isWaySo_189 ?_
              refine j_iconst C dL_isWaySo_190 ?_
              obtain ⟨hkr9, h⟩ := G_of h
              obtain ⟨r9, hr9, h⟩ := Ob_of h
              refine dj_graph C (u := []) (wc := w8) (v := []) hqw8 (by omega) (by decide) hr9 (ww _) C.2.2.2.2.2.2.1 (Nat.le_of_ble_eq_true rfl) (Nat.le_of_ble_eq_true rfl) (Nat.le_of_ble_eq_true rfl) hkr9 (by show 6 * ((kc + 1) + 1) + 6 * 1 ≤ 6 * 100; omega) dL_isWaySo_191 (fun w10 hpw10 _ => ?_)
              refine j_cs (c1 := (((kc + 1) + 1) + 1)) (s1 := 6 * (((kc + 1) + 1) + 1)) (w1 := w10) rfl (by omega) (ww _) ?_
              have hqw10 : Xw a g (cl + (((kc + 1) + 1) + 1)) r9.2 w10 := hpw10
              refine j_if_ge C h 201 (by decide) dL_isWaySo_194 (fun c11 h => ?_) (fun c11 h => ?_)
              · refine j_iconst C dL_isWaySo_201 ?_
                refine j_lv [2, 3, 4, 5] rfl ?_
                exact J202 l1 l2 l6 0 r9.2 (((kc + 1) + 1) + 1) w10 hqw10 h
              · refine j_lv [2, 3, 4, 5] rfl ?_
                exact J197 l1 l2 l6 r9.2 (((kc + 1) + 1) + 1) w10 hqw10 h
      have J157 : ∀ (l1 : Int) (l2 : Int) (l3 : Int) (l6 : Int) (l7 : Int) (oA : AS) (kc : Nat) (wo : va_W) (Ho : Xw a g (cl + kc) oA wo), F_L_isWaySo_b157 ag100 l1 l2 l3 l6 l7 oA kc = some res → J p l e ({ frames := 9, cells := 100, slots := 600, locals := 168 } : Room) s m args below meth c D A 8 Q kc (6 * kc) wo 157 [(0, .ref (a 0)), (1, .int (vI l1)), (2, .int (vI l2)), (3, .int (vI l3)), (6, .int (vI l6)), (7, .int (vI l7))] [] := by
        intro l1 l2 l3 l6 l7 oA kc wo Ho h
        unfold F_L_isWaySo_b157 at h
        refine j_iconst C dL_isWaySo_157 ?_
        exact J158 l1 l2 l3 l6 l7 0 oA kc wo Ho h
      have J153 : ∀ (l1 : Int) (l2 : Int) (l3 : Int) (l6 : Int) (l7 : Int) (oA : AS) (kc : Nat) (wo : va_W) (Ho : Xw a g (cl + kc) oA wo), F_L_isWaySo_b153 ag100 l1 l2 l3 l6 l7 oA kc = some res → J p l e ({ frames := 9, cells := 100, slots := 600, locals := 168 } : Room) s m args below meth c D A 8 Q kc (6 * kc) wo 153 [(0, .ref (a 0)), (1, .int (vI l1)), (2, .int (vI l2)), (3, .int (vI l3)), (6, .int (vI l6)), (7, .int (vI l7))] [] := by
        intro l1 l2 l3 l6 l7 oA kc wo Ho h
        unfold F_L_isWaySo_b153 at h
        refine j_iconst C dL_isWaySo_153 ?_
        refine j_goto C 158 (by decide) dL_isWaySo_154 ?_
        exact J158 l1 l2 l3 l6 l7 1 oA kc wo Ho h
      have J138 : ∀ (l1 : Int) (l2 : Int) (l3 : Int) (l6 : Int) (l7 : Int) (oA : AS) (kc : Nat) (wo : va_W) (Ho : Xw a g (cl + kc) oA wo), F_L_isWaySo_b138 ag100 l1 l2 l3 l6 l7 oA kc = some res → J p l e ({ frames := 9, cells := 100, slots := 600, locals := 168 } : Room) s m args below meth c D A 8 Q kc (6 * kc) wo 138 [(0, .ref (a 0)), (1, .int (vI l1)), (2, .int (vI l2)), (3, .int (vI l3)), (6, .int (vI l6)), (7, .int (vI l7))] [] := by
        intro l1 l2 l3 l6 l7 oA kc wo Ho h
        unfold F_L_isWaySo_b138 at h
        refine j_iload C 5 rfl dL_isWaySo_138 ?_
        refine j_if_lt C h 157 (by decide) dL_isWaySo_140 (fun c18 h => ?_) (fun c18 h => ?_)
        · exact J157 l1 l2 l3 l6 l7 oA kc wo Ho h
        · refine j_aload_n C 0 rfl rfl dL_isWaySo_143 ?_
          refine j_iload C 5 rfl dL_isWaySo_144 ?_
          obtain ⟨hkr15, h⟩ := G_of h
          obtain ⟨r15, hr15, h⟩ := Ob_of h
          refine J.eq (st' := [.int (vI (sx l7)), .ref (a 0)]) (by first | (simp only [sx_v]; done) | (simp only [sx_v]; rfl)) ?_
          refine j_callE C T (u := []) (wc := wo) (v := []) (wr_can l D a g hl (cl + kc) oA wo Ho (by omega) (sx l7) (sx_in _) r15 hr15) w445 w446 w0 w447 (n := 2) (by decide +kernel) ⟨(Nat.le_of_ble_eq_true rfl), (Nat.le_of_ble_eq_true rfl)⟩ rfl rfl rfl (ww _) C.2.2.2.2.2.2.1 (Nat.le_of_ble_eq_true rfl) rfl hkr15 (by show 6 * kc + 6 * 1 ≤ 6 * 100; omega) dL_isWaySo_146 (fun w16 hpw16 _ => ?_)
          refine j_cs (c1 := (kc + 1)) (s1 := 6 * (kc + 1)) (w1 := w16) rfl (by omega) (ww _) ?_
          have hqw16 : Xw a g (cl + (kc + 1)) r15.2 w16 := hpw16
          refine j_iconst C dL_isWaySo_149 ?_
          refine j_icmp_ne C h 157 (by decide) dL_isWaySo_150 (fun c17 h => ?_) (fun c17 h => ?_)
          · exact J157 l1 l2 l3 l6 l7 r15.2 (kc + 1) w16 hqw16 h
          · exact J153 l1 l2 l3 l6 l7 r15.2 (kc + 1) w16 hqw16 h
      have J127 : ∀ (l1 : Int) (l2 : Int) (l3 : Int) (l6 : Int) (s0 : Int) (oA : AS) (kc : Nat) (wo : va_W) (Ho : Xw a g (cl + kc) oA wo), F_L_isWaySo_b127 ag100 l1 l2 l3 l6 s0 oA kc = some res → J p l e ({ frames := 9, cells := 100, slots := 600, locals := 168 } : Room) s m args below meth c D A 8 Q kc (6 * kc) wo 127 [(0, .ref (a 0)), (1, .int (vI l1)), (2, .int (vI l2)), (3, .int (vI l3)), (6, .int (vI l6))] [.int (vI s0)] := by
        intro l1 l2 l3 l6 s0 oA kc wo Ho h
        unfold F_L_isWaySo_b127 at h
        refine j_istore C [(7, .int (vI s0)), (0, .ref (a 0)), (1, .int (vI l1)), (2, .int (vI l2)), (3, .int (vI l3)), (6, .int (vI l6))] rfl (by decide) dL_isWaySo_127 ?_
        refine j_iload C 0 rfl dL_isWaySo_129 ?_
        refine j_if_ge C h 138 (by decide) dL_isWaySo_131 (fun c20 h => ?_) (fun c20 h => ?_)
        · refine j_lv [1, 2, 3, 4, 5, 0] rfl ?_
          exact J138 l1 l2 l3 l6 s0 oA kc wo Ho h
        · refine j_iload_n C 4 rfl rfl dL_isWaySo_134 ?_
          refine j_if_le C h 153 (by decide) dL_isWaySo_135 (fun c19 h => ?_) (fun c19 h => ?_)
          · refine j_lv [1, 2, 3, 4, 5, 0] rfl ?_
            exact J153 l1 l2 l3 l6 s0 oA kc wo Ho h
          · refine j_lv [1, 2, 3, 4, 5, 0] rfl ?_
            exact J138 l1 l2 l3 l6 s0 oA kc wo Ho h
      unfold F_L_isWaySo_b100_body at h
      refine j_iload C 5 rfl dL_isWaySo_100 ?_
      refine j_bipush C (by decide) dL_isWaySo_102 ?_
      refine j_icmp_ge C h 217 (by decide) dL_isWaySo_104 (fun c25 h => ?_) (fun c25 h => ?_)
      · refine j_lv [4] rfl ?_
        exact J217 l5 oA kc wo Ho h
      · refine j_iload C 4 rfl dL_isWaySo_107 ?_
        refine j_if_eq C h 217 (by decide) dL_isWaySo_109 (fun c24 h => ?_) (fun c24 h => ?_)
        · refine j_lv [4] rfl ?_
          exact J217 l5 oA kc wo Ho h
        · refine j_iload_n C 3 rfl rfl dL_isWaySo_112 ?_
          refine j_if_le C h 126 (by decide) dL_isWaySo_113 (fun c23 h => ?_) (fun c23 h => ?_)
          · refine j_iconst C dL_isWaySo_126 ?_
            refine j_lv [0, 1, 2, 3, 5] rfl ?_
            exact J127 l1 l2 l3 l6 (-1) oA kc wo Ho h
          · refine j_aload_n C 0 rfl rfl dL_isWaySo_116 ?_
            refine j_iload_n C 1 rfl rfl dL_isWaySo_117 ?_
            refine j_iload_n C 2 rfl rfl dL_isWaySo_118 ?_
            refine j_iconst C dL_isWaySo_119 ?_
            obtain ⟨hkr21, h⟩ := G_of h
            obtain ⟨r21, hr21, h⟩ := Ob_of h
            refine J.eq (st' := [.int (vI 0), .int (vI (sx l2)), .int (vI (sx l1)), .ref (a 0)]) (by first | (simp only [sx_v]; done) | (simp only [sx_v]; rfl)) ?_
            refine j_callE C T (u := []) (wc := wo) (v := []) (wr_step l D a g hl (cl + kc) oA wo Ho (by omega) (sx l1) (sx l2) 0 (sx_in _) (sx_in _) (by decide) r21 hr21) w588 w589 w0 w590 (n := 4) (by decide +kernel) ⟨(Nat.le_of_ble_eq_true rfl), (Nat.le_of_ble_eq_true rfl)⟩ rfl rfl rfl (ww _) C.2.2.2.2.2.2.1 (Nat.le_of_ble_eq_true rfl) rfl hkr21 (by show 6 * kc + 6 * 1 ≤ 6 * 100; omega) dL_isWaySo_120 (fun w22 hpw22 _ => ?_)
            refine j_cs (c1 := (kc + 1)) (s1 := 6 * (kc + 1)) (w1 := w22) rfl (by omega) (ww _) ?_
            have hqw22 : Xw a g (cl + (kc + 1)) r21.2 w22 := hpw22
            refine j_goto C 127 (by decide) dL_isWaySo_123 ?_
            refine j_lv [0, 1, 2, 3, 5] rfl ?_
            exact J127 l1 l2 l3 l6 r21.1 r21.2 (kc + 1) w22 hqw22 h
  have J95 : ∀ (l1 : Int) (l2 : Int) (l3 : Int) (s0 : Int) (oA : AS) (kc : Nat) (wo : va_W) (Ho : Xw a g (cl + kc) oA wo), F_L_isWaySo_b95 l1 l2 l3 s0 oA kc = some res → J p l e ({ frames := 9, cells := 100, slots := 600, locals := 168 } : Room) s m args below meth c D A 8 Q kc (6 * kc) wo 95 [(0, .ref (a 0)), (1, .int (vI l1)), (2, .int (vI l2)), (3, .int (vI l3))] [.int (vI s0)] := by
    intro l1 l2 l3 s0 oA kc wo Ho h
    unfold F_L_isWaySo_b95 at h
    refine j_istore C [(5, .int (vI s0)), (0, .ref (a 0)), (1, .int (vI l1)), (2, .int (vI l2)), (3, .int (vI l3))] rfl (by decide) dL_isWaySo_95 ?_
    refine j_iconst C dL_isWaySo_97 ?_
    refine j_istore C [(6, .int (vI 0)), (5, .int (vI s0)), (0, .ref (a 0)), (1, .int (vI l1)), (2, .int (vI l2)), (3, .int (vI l3))] rfl (by decide) dL_isWaySo_98 ?_
    refine j_lv [2, 3, 4, 5, 1, 0] rfl ?_
    exact J100 NN l1 l2 l3 s0 0 oA kc wo Ho h
  have J94 : ∀ (l1 : Int) (l2 : Int) (l3 : Int) (oA : AS) (kc : Nat) (wo : va_W) (Ho : Xw a g (cl + kc) oA wo), F_L_isWaySo_b94 l1 l2 l3 oA kc = some res → J p l e ({ frames := 9, cells := 100, slots := 600, locals := 168 } : Room) s m args below meth c D A 8 Q kc (6 * kc) wo 94 [(0, .ref (a 0)), (1, .int (vI l1)), (2, .int (vI l2)), (3, .int (vI l3))] [] := by
    intro l1 l2 l3 oA kc wo Ho h
    unfold F_L_isWaySo_b94 at h
    refine j_iconst C dL_isWaySo_94 ?_
    exact J95 l1 l2 l3 0 oA kc wo Ho h
  have J87 : ∀ (l1 : Int) (l2 : Int) (l3 : Int) (s0 : Int) (s1 : Int) (oA : AS) (kc : Nat) (wo : va_W) (Ho : Xw a g (cl + kc) oA wo), F_L_isWaySo_b87 l1 l2 l3 s0 s1 oA kc = some res → J p l e ({ frames := 9, cells := 100, slots := 600, locals := 168 } : Room) s m args below meth c D A 8 Q kc (6 * kc) wo 87 [(0, .ref (a 0)), (1, .int (vI l1)), (2, .int (vI l2)), (3, .int (vI l3))] [.int (vI s1), .int (vI s0)] := by
    intro l1 l2 l3 s0 s1 oA kc wo Ho h
    unfold F_L_isWaySo_b87 at h
    refine j_icmp_ne C h 94 (by decide) dL_isWaySo_87 (fun c26 h => ?_) (fun c26 h => ?_)
    · exact J94 l1 l2 l3 oA kc wo Ho h
    · refine j_iconst C dL_isWaySo_90 ?_
      refine j_goto C 95 (by decide) dL_isWaySo_91 ?_
      exact J95 l1 l2 l3 1 oA kc wo Ho h
  have J73 : ∀ (l1 : Int) (l2 : Int) (l3 : Int) (s0 : Int) (oA : AS) (kc : Nat) (wo : va_W) (Ho : Xw a g (cl + kc) oA wo), F_L_isWaySo_b73 l1 l2 l3 s0 oA kc = some res → J p l e ({ frames := 9, cells := 100, slots := 600, locals := 168 } : Room) s m args below meth c D A 8 Q kc (6 * kc) wo 73 [(0, .ref (a 0)), (1, .int (vI l1)), (2, .int (vI l2)), (3, .int (vI l3))] [.int (vI s0)] := by
    intro l1 l2 l3 s0 oA kc wo Ho h
    unfold F_L_isWaySo_b73 at h
    refine j_aload_n C 0 rfl rfl dL_isWaySo_73 ?_
    refine j_iload_n C 1 rfl rfl dL_isWaySo_74 ?_
    obtain ⟨hkr27, h⟩ := G_of h
    obtain ⟨r27, hr27, h⟩ := Ob_of h
    refine J.eq (st' := [.int (vI (sx l1)), .ref (a 0), .int (vI s0)]) (by first | (simp only [sx_v]; done) | (simp only [sx_v]; rfl)) ?_
    refine dj_tokens C (u := []) (wc := wo) (v := []) Ho (by omega) (sx_in _) hr27 (ww _) C.2.2.2.2.2.2.1 (Nat.le_of_ble_eq_true rfl) (Nat.le_of_ble_eq_true rfl) (Nat.le_of_ble_eq_true rfl) hkr27 (by show 6 * kc + 6 * 1 ≤ 6 * 100; omega) dL_isWaySo_75 (fun w28 hpw28 _ => ?_)
    refine j_cs (c1 := (kc + 1)) (s1 := 6 * (kc + 1)) (w1 := w28) rfl (by omega) (ww _) ?_
    have hqw28 : Xw a g (cl + (kc + 1)) r27.2 w28 := hpw28
    refine j_iload_n C 2 rfl rfl dL_isWaySo_78 ?_
    refine j_icmp_ge C h 86 (by decide) dL_isWaySo_79 (fun c29 h => ?_) (fun c29 h => ?_)
    · refine j_iconst C dL_isWaySo_86 ?_
      exact J87 l1 l2 l3 s0 0 r27.2 (kc + 1) w28 hqw28 h
    · refine j_iconst C dL_isWaySo_82 ?_
      refine j_goto C 87 (by decide) dL_isWaySo_83 ?_
      exact J87 l1 l2 l3 s0 1 r27.2 (kc + 1) w28 hqw28 h
  have J38 : ∀ (oA : AS) (kc : Nat) (wo : va_W) (Ho : Xw a g (cl + kc) oA wo), F_L_isWaySo_b38 oA kc = some res → J p l e ({ frames := 9, cells := 100, slots := 600, locals := 168 } : Room) s m args below meth c D A 8 Q kc (6 * kc) wo 38 [] [] := by
    intro oA kc wo Ho h
    unfold F_L_isWaySo_b38 at h
    refine j_iconst C dL_isWaySo_38 ?_
    refine j_goto C 43 (by decide) dL_isWaySo_39 ?_
    obtain ⟨hkc, h⟩ := G_of h
    obtain ⟨hz, h⟩ := G_of h
    cases h
    refine j_wide hkc (Nat.mul_le_mul_left 6 hkc) ?_
    exact RET wo _ _ Ho hkc hz dL_isWaySo_43
  unfold F_L_isWaySo at h
  refine j_aload_n C 0 rfl rfl dL_isWaySo_0 ?_
  refine j_iload_n C 1 rfl rfl dL_isWaySo_1 ?_
  refine j_iload_n C 2 rfl rfl dL_isWaySo_2 ?_
  obtain ⟨hkr30, h⟩ := G_of h
  obtain ⟨r30, hr30, h⟩ := Ob_of h
  refine J.eq (st' := [.int (vI (sx x2)), .int (vI (sx x1)), .ref (a 0)]) (by first | (simp only [sx_v]; done) | (simp only [sx_v]; rfl)) ?_
  refine j_callE C T (u := []) (wc := wo) (v := []) (wr_way l D a g hl (cl + kc) oA wo Ho (by omega) (sx x1) (sx x2) (sx_in _) (sx_in _) r30 hr30) w573 w574 w0 w575 (n := 3) (by decide +kernel) ⟨(Nat.le_of_ble_eq_true rfl), (Nat.le_of_ble_eq_true rfl)⟩ rfl rfl rfl (ww _) C.2.2.2.2.2.2.1 (Nat.le_of_ble_eq_true rfl) rfl hkr30 (by show 6 * kc + 6 * 1 ≤ 6 * 100; omega) dL_isWaySo_3 (fun w31 hpw31 _ => ?_)
  refine j_cs (c1 := (kc + 1)) (s1 := 6 * (kc + 1)) (w1 := w31) rfl (by omega) (ww _) ?_
  have hqw31 : Xw a g (cl + (kc + 1)) r30.2 w31 := hpw31
  refine j_istore_n C [(3, .int (vI r30.1)), (0, .ref (a 0)), (1, .int (vI x1)), (2, .int (vI x2))] rfl rfl (by decide) dL_isWaySo_6 ?_
  refine j_aload_n C 1 rfl rfl dL_isWaySo_7 ?_
  refine j_iconst C dL_isWaySo_8 ?_
  obtain ⟨hkr32, h⟩ := G_of h
  obtain ⟨r32, hr32, h⟩ := Ob_of h
  refine dj_graph C (u := []) (wc := w31) (v := []) hqw31 (by omega) (by decide) hr32 (ww _) C.2.2.2.2.2.2.1 (Nat.le_of_ble_eq_true rfl) (Nat.le_of_ble_eq_true rfl) (Nat.le_of_ble_eq_true rfl) hkr32 (by show 6 * (kc + 1) + 6 * 1 ≤ 6 * 100; omega) dL_isWaySo_9 (fun w33 hpw33 _ => ?_)
  refine j_cs (c1 := ((kc + 1) + 1)) (s1 := 6 * ((kc + 1) + 1)) (w1 := w33) rfl (by omega) (ww _) ?_
  have hqw33 : Xw a g (cl + ((kc + 1) + 1)) r32.2 w33 := hpw33
  refine j_istore C [(4, .int (vI r32.1)), (3, .int (vI r30.1)), (0, .ref (a 0)), (1, .int (vI x1)), (2, .int (vI x2))] rfl (by decide) dL_isWaySo_12 ?_
  refine j_iload_n C 1 rfl rfl dL_isWaySo_14 ?_
  refine j_if_ge C h 44 (by decide) dL_isWaySo_15 (fun c46 h => ?_) (fun c46 h => ?_)
  · refine j_aload_n C 2 rfl rfl dL_isWaySo_44 ?_
    refine j_iload_n C 3 rfl rfl dL_isWaySo_45 ?_
    refine j_iload_n C 4 rfl rfl dL_isWaySo_46 ?_
    refine j_iload_n C 1 rfl rfl dL_isWaySo_47 ?_
    obtain ⟨hkr34, h⟩ := G_of h
    obtain ⟨r34, hr34, h⟩ := Ob_of h
    refine J.eq (st' := [.int (vI (sx r30.1)), .int (vI (sx x2)), .int (vI (sx x1)), .ref (a 0)]) (by first | (simp only [sx_v]; done) | (simp only [sx_v]; rfl)) ?_
    refine j_callE C T (u := []) (wc := w33) (v := []) (wr_step l D a g hl (cl + ((kc + 1) + 1)) r32.2 w33 hqw33 (by omega) (sx x1) (sx x2) (sx r30.1) (sx_in _) (sx_in _) (sx_in _) r34 hr34) w588 w589 w0 w590 (n := 4) (by decide +kernel) ⟨(Nat.le_of_ble_eq_true rfl), (Nat.le_of_ble_eq_true rfl)⟩ rfl rfl rfl (ww _) C.2.2.2.2.2.2.1 (Nat.le_of_ble_eq_true rfl) rfl hkr34 (by show 6 * ((kc + 1) + 1) + 6 * 1 ≤ 6 * 100; omega) dL_isWaySo_48 (fun w35 hpw35 _ => ?_)
    refine j_cs (c1 := (((kc + 1) + 1) + 1)) (s1 := 6 * (((kc + 1) + 1) + 1)) (w1 := w35) rfl (by omega) (ww _) ?_
    have hqw35 : Xw a g (cl + (((kc + 1) + 1) + 1)) r34.2 w35 := hpw35
    refine j_iconst C dL_isWaySo_51 ?_
    refine j_icmp_ne C h 94 (by decide) dL_isWaySo_52 (fun c40 h => ?_) (fun c40 h => ?_)
    · refine j_lv [2, 3, 4, 1] rfl ?_
      exact J94 x1 x2 r30.1 r34.2 (((kc + 1) + 1) + 1) w35 hqw35 h
    · refine j_aload_n C 2 rfl rfl dL_isWaySo_55 ?_
      refine j_iload_n C 3 rfl rfl dL_isWaySo_56 ?_
      obtain ⟨hkr36, h⟩ := G_of h
      obtain ⟨r36, hr36, h⟩ := Ob_of h
      refine J.eq (st' := [.int (vI (sx x1)), .ref (a 0)]) (by first | (simp only [sx_v]; done) | (simp only [sx_v]; rfl)) ?_
      refine dj_most C (u := []) (wc := w35) (v := []) hqw35 (by omega) (sx_in _) hr36 (ww _) C.2.2.2.2.2.2.1 (Nat.le_of_ble_eq_true rfl) (Nat.le_of_ble_eq_true rfl) (Nat.le_of_ble_eq_true rfl) hkr36 (by show 6 * (((kc + 1) + 1) + 1) + 6 * 1 ≤ 6 * 100; omega) dL_isWaySo_57 (fun w37 hpw37 _ => ?_)
      refine j_cs (c1 := ((((kc + 1) + 1) + 1) + 1)) (s1 := 6 * ((((kc + 1) + 1) + 1) + 1)) (w1 := w37) rfl (by omega) (ww _) ?_
      have hqw37 : Xw a g (cl + ((((kc + 1) + 1) + 1) + 1)) r36.2 w37 := hpw37
      refine j_iload_n C 4 rfl rfl dL_isWaySo_60 ?_
      refine j_icmp_lt C h 94 (by decide) dL_isWaySo_61 (fun c39 h => ?_) (fun c39 h => ?_)
      · refine j_lv [2, 3, 4, 1] rfl ?_
        exact J94 x1 x2 r30.1 r36.2 ((((kc + 1) + 1) + 1) + 1) w37 hqw37 h
      · refine j_iload_n C 1 rfl rfl dL_isWaySo_64 ?_
        refine j_if_le C h 72 (by decide) dL_isWaySo_65 (fun c38 h => ?_) (fun c38 h => ?_)
        · refine j_iconst C dL_isWaySo_72 ?_
          refine j_lv [2, 3, 4, 1] rfl ?_
          exact J73 x1 x2 r30.1 0 r36.2 ((((kc + 1) + 1) + 1) + 1) w37 hqw37 h
        · refine j_iconst C dL_isWaySo_68 ?_
          refine j_goto C 73 (by decide) dL_isWaySo_69 ?_
          refine j_lv [2, 3, 4, 1] rfl ?_
          exact J73 x1 x2 r30.1 1 r36.2 ((((kc + 1) + 1) + 1) + 1) w37 hqw37 h
  · refine j_iload_n C 1 rfl rfl dL_isWaySo_18 ?_
    refine j_ldc C (n := (-99999999)) (by decide) w392 dL_isWaySo_19 ?_
    refine j_icmp_eq C h 38 (by decide) dL_isWaySo_21 (fun c45 h => ?_) (fun c45 h => ?_)
    · refine j_lv [] rfl ?_
      exact J38 r32.2 ((kc + 1) + 1) w33 hqw33 h
    · refine j_iload C 0 rfl dL_isWaySo_24 ?_
      refine j_if_lt C h 38 (by decide) dL_isWaySo_26 (fun c44 h => ?_) (fun c44 h => ?_)
      · refine j_lv [] rfl ?_
        exact J38 r32.2 ((kc + 1) + 1) w33 hqw33 h
      · refine j_aload_n C 2 rfl rfl dL_isWaySo_29 ?_
        refine j_iload_n C 3 rfl rfl dL_isWaySo_30 ?_
        obtain ⟨hkr41, h⟩ := G_of h
        obtain ⟨r41, hr41, h⟩ := Ob_of h
        refine J.eq (st' := [.int (vI (sx x1)), .ref (a 0)]) (by first | (simp only [sx_v]; done) | (simp only [sx_v]; rfl)) ?_
        refine dj_most C (u := []) (wc := w33) (v := []) hqw33 (by omega) (sx_in _) hr41 (ww _) C.2.2.2.2.2.2.1 (Nat.le_of_ble_eq_true rfl) (Nat.le_of_ble_eq_true rfl) (Nat.le_of_ble_eq_true rfl) hkr41 (by show 6 * ((kc + 1) + 1) + 6 * 1 ≤ 6 * 100; omega) dL_isWaySo_31 (fun w42 hpw42 _ => ?_)
        refine j_cs (c1 := (((kc + 1) + 1) + 1)) (s1 := 6 * (((kc + 1) + 1) + 1)) (w1 := w42) rfl (by omega) (ww _) ?_
        have hqw42 : Xw a g (cl + (((kc + 1) + 1) + 1)) r41.2 w42 := hpw42
        refine j_iload_n C 4 rfl rfl dL_isWaySo_34 ?_
        refine j_icmp_ge C h 42 (by decide) dL_isWaySo_35 (fun c43 h => ?_) (fun c43 h => ?_)
        · refine j_iconst C dL_isWaySo_42 ?_
          obtain ⟨hkc, h⟩ := G_of h
          obtain ⟨hz, h⟩ := G_of h
          cases h
          refine j_wide hkc (Nat.mul_le_mul_left 6 hkc) ?_
          exact RET w42 _ _ hqw42 hkc hz dL_isWaySo_43
        · refine j_lv [] rfl ?_
          exact J38 r41.2 (((kc + 1) + 1) + 1) w42 hqw42 h
set_option maxRecDepth 100000 in
theorem c_L_isWaySo (l : Launch) (D : va_G) (a : Nat → Nat) (g : Nat → ClassId) (hl : l.stackTraces = false) (cl : Nat) (hcl : cl + 100 ≤ 900000) (oA : AS) (wo : va_W) (Ho : Xw a g cl oA wo) (x1 : Int) (x2 : Int) (res : Int × AS × Nat) (h : F_L_isWaySo x1 x2 oA 0 = some res) : Ke l yL_isWaySo (Cond.code yL_isWaySo cL_isWaySo 8 (some .boolean)) ({ frames := 9, cells := 100, slots := 600, locals := 168 } : Room) D (xT g) [.ref (a 0), .int (vI x1), .int (vI x2)] wo (fun w => Xw a g (cl + 100) res.2.1 w) res.1 100 (6 * 100) :=
  kz_of rfl (by decide +kernel) (Nat.le_of_ble_eq_true rfl) (fun {p} {e} {s} {m} {args} {below} {meth} {c} {A} {Q} C T RET => k_L_isWaySo C T hl cl hcl x1 x2 oA 0 wo Ho res h (fun w1 pc lv H1 hkc hz hd => RET _ pc lv (Xw_le (by omega) H1) (Xw_ha H1 Ho) hz hd))
end WK
