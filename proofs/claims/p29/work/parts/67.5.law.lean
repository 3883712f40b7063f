section WK
variable {p : Program} {l : Launch} {e : Env} {s : State} {m : MethodId} {args : Array Value} {below : List Frame} {meth : Method} {c : Code} {D : va_G} {A : Nat → Prop} {Q : State → Prop}
set_option maxRecDepth 100000 in
set_option maxHeartbeats 8000000 in
theorem k_L_law {a : Nat → Nat} {g : Nat → ClassId} {b : Nat → Nat} {h9 : Nat → ClassId} (C : JC p s m args meth c cL_law 7 "MarkingHallLaw" D (xT g ++ xT h9) A) (T : TT A s) (hl : l.stackTraces = false) (cl : Nat) (hcl : cl + 40000 ≤ 900000) {bs L : Nat} {xs : Nat → Int32} (hX : va_X bs L xs s s.heap) (hbl : bs < s.heap.size) (hbA : ¬ A bs) (hLs : L ≤ 260) (cv : Int → Int) (hcv : ∀ k, cv k = cellv L xs k) (oA : AS) (pA : AS) (kc : Nat) (wo : va_W) (wp : va_W) (Ho : Xw a g (cl + kc) oA wo) (Hp : Xw b h9 (cl + kc) pA wp) (res : Int × AS × AS × Nat) (h : F_L_law cv oA pA kc = some res) (RET : ∀ (wo : va_W) (wp : va_W) (pc : Nat) (lv : List (Nat × Value)) (Ho : Xw a g (cl + res.2.2.2) res.2.1 wo) (Hp : Xw b h9 (cl + res.2.2.2) res.2.2.1 wp), res.2.2.2 ≤ 40000 → (res.1 = 0 ∨ res.1 = 1) → decode cL_law pc = .ok (.ireturn, 1) → J p l e room_1 s m args below meth c D A 7 Q 40000 (6 * 40000) (wo ++ wp) pc lv [.int (vI res.1)]) : J p l e room_1 s m args below meth c D A 7 Q kc (6 * kc) (wo ++ wp) 16 [(0, .ref bs), (1, .ref (a 0)), (2, .ref (b 0))] [] := by
  have J188 : ∀ (oA : AS) (pA : AS) (kc : Nat) (wo : va_W) (wp : va_W) (Ho : Xw a g (cl + kc) oA wo) (Hp : Xw b h9 (cl + kc) pA wp), F_L_law_b188 cv oA pA kc = some res → J p l e room_1 s m args below meth c D A 7 Q kc (6 * kc) (wo ++ wp) 188 [] [] := by
    intro oA pA kc wo wp Ho Hp h
    unfold F_L_law_b188 at h
    refine j_iconst C dL_law_188 ?_
    obtain ⟨hkc, h⟩ := G_of h
    obtain ⟨hz, h⟩ := G_of h
    cases h
    refine j_wide hkc (Nat.mul_le_mul_left 6 hkc) ?_
    exact RET wo wp _ _ Ho Hp hkc hz dL_law_189
  have J167 : ∀ (l3 : Int) (oA : AS) (pA : AS) (kc : Nat) (wo : va_W) (wp : va_W) (Ho : Xw a g (cl + kc) oA wo) (Hp : Xw b h9 (cl + kc) pA wp), F_L_law_b167 cv l3 oA pA kc = some res → J p l e room_1 s m args below meth c D A 7 Q kc (6 * kc) (wo ++ wp) 167 [(0, .ref bs), (1, .ref (a 0)), (3, .int (vI l3))] [] := by
    intro l3 oA pA kc wo wp Ho Hp h
    unfold F_L_law_b167 at h
    refine j_iload_n C 2 rfl rfl dL_law_167 ?_
    refine j_if_eq C h 188 (by decide) dL_law_168 (fun c5 h => ?_) (fun c5 h => ?_)
    · refine j_lv [] rfl ?_
      exact J188 oA pA kc wo wp Ho Hp h
    · refine j_aload_n C 1 rfl rfl dL_law_171 ?_
      refine j_aload_n C 0 rfl rfl dL_law_172 ?_
      refine j_bipush C (by decide) dL_law_173 ?_
      obtain ⟨hce, h⟩ := G_of h
      refine j_cell C hX hbl hbA hLs (k := 90) hce.1 w377 w378 w0 w379 (Nat.le_of_ble_eq_true rfl) (Nat.le_of_ble_eq_true rfl) (Nat.le_of_ble_eq_true rfl) (Nat.le_trans hce.2 (Nat.le_of_ble_eq_true rfl)) (Nat.le_trans (Nat.mul_le_mul_left 6 hce.2) (Nat.le_of_ble_eq_true rfl)) dL_law_175 ?_
      rw [← hcv]
      obtain ⟨hkr1, h⟩ := G_of h
      obtain ⟨r1, hr1, h⟩ := Ob_of h
      refine J.eq (st' := [.int (vI (sx (cv 90))), .ref (a 0)]) (by first | (simp only [sx_v]; done) | (simp only [sx_v]; rfl)) ?_
      refine j_callN C T (u := []) (wc := wo) (v := wp) (c_L_isSo l D a g hl (cl + kc) (by omega) oA wo Ho (sx (cv 90)) r1 hr1) w828 w829 w0 w830 (n := 2) (by decide +kernel) ⟨(Nat.le_of_ble_eq_true rfl), (Nat.le_of_ble_eq_true rfl)⟩ rfl rfl rfl rfl (K_left C.2.2.2.2.2.2.1) (Nat.le_of_ble_eq_true rfl) rfl (Nat.le_trans hkr1 (Nat.le_of_ble_eq_true rfl)) (Nat.le_trans (show 6 * kc + 6 * 400 ≤ 6 * 40000 by omega) (Nat.le_of_ble_eq_true rfl)) dL_law_178 (fun w2 hpw2 _ => ?_)
      have hb3 := Xw_le (cl' := cl + (kc + 400)) (by omega) Hp
      refine j_cs (c1 := (kc + 400)) (s1 := 6 * (kc + 400)) (w1 := (w2 ++ wp)) rfl (by omega) rfl ?_
      have hqw2 : Xw a g (cl + (kc + 400)) r1.2.1 w2 := hpw2
      refine j_if_eq C h 188 (by decide) dL_law_181 (fun c4 h => ?_) (fun c4 h => ?_)
      · refine j_lv [] rfl ?_
        exact J188 r1.2.1 pA (kc + 400) w2 wp hqw2 hb3 h
      · refine j_iconst C dL_law_184 ?_
        refine j_goto C 189 (by decide) dL_law_185 ?_
        obtain ⟨hkc, h⟩ := G_of h
        obtain ⟨hz, h⟩ := G_of h
        cases h
        refine j_wide hkc (Nat.mul_le_mul_left 6 hkc) ?_
        exact RET w2 wp _ _ hqw2 hb3 hkc hz dL_law_189
  have J88 : ∀ (n : Nat) (l3 : Int) (l4 : Int) (oA : AS) (pA : AS) (kc : Nat) (wo : va_W) (wp : va_W) (Ho : Xw a g (cl + kc) oA wo) (Hp : Xw b h9 (cl + kc) pA wp), F_L_law_b88 cv n l3 l4 oA pA kc = some res → J p l e room_1 s m args below meth c D A 7 Q kc (6 * kc) (wo ++ wp) 88 [(0, .ref bs), (1, .ref (a 0)), (2, .ref (b 0)), (3, .int (vI l3)), (4, .int (vI l4))] [] := by
    intro n
    induction n with
    | zero => intro l3 l4 oA pA kc wo wp Ho Hp h; exact no_h h
    | succ n ih88 =>
      intro l3 l4 oA pA kc wo wp Ho Hp h
      replace h : F_L_law_b88_body cv (F_L_law_b88 cv n) l3 l4 oA pA kc = some res := h
      generalize F_L_law_b88 cv n = ag88 at ih88 h
      have J160 : ∀ (l4 : Int) (s0 : Int) (oA : AS) (pA : AS) (kc : Nat) (wo : va_W) (wp : va_W) (Ho : Xw a g (cl + kc) oA wo) (Hp : Xw b h9 (cl + kc) pA wp), F_L_law_b160 cv ag88 l4 s0 oA pA kc = some res → J p l e room_1 s m args below meth c D A 7 Q kc (6 * kc) (wo ++ wp) 160 [(0, .ref bs), (1, .ref (a 0)), (2, .ref (b 0)), (4, .int (vI l4))] [.int (vI s0)] := by
        intro l4 s0 oA pA kc wo wp Ho Hp h
        unfold F_L_law_b160 at h
        refine j_istore_n C [(3, .int (vI s0)), (0, .ref bs), (1, .ref (a 0)), (2, .ref (b 0)), (4, .int (vI l4))] rfl rfl (by decide) dL_law_160 ?_
        refine j_iinc C 4 rfl (fun v => [(4, .int (vI v)), (3, .int (vI s0)), (0, .ref bs), (1, .ref (a 0)), (2, .ref (b 0))]) (fun _ => rfl) (by decide) h dL_law_161 (fun v6 h => ?_)
        refine j_goto C 88 (by decide) dL_law_164 ?_
        refine j_lv [2, 3, 4, 1, 0] rfl ?_
        exact ih88 s0 v6 oA pA kc wo wp Ho Hp h
      have J159 : ∀ (l4 : Int) (oA : AS) (pA : AS) (kc : Nat) (wo : va_W) (wp : va_W) (Ho : Xw a g (cl + kc) oA wo) (Hp : Xw b h9 (cl + kc) pA wp), F_L_law_b159 cv ag88 l4 oA pA kc = some res → J p l e room_1 s m args below meth c D A 7 Q kc (6 * kc) (wo ++ wp) 159 [(0, .ref bs), (1, .ref (a 0)), (2, .ref (b 0)), (4, .int (vI l4))] [] := by
        intro l4 oA pA kc wo wp Ho Hp h
        unfold F_L_law_b159 at h
        refine j_iconst C dL_law_159 ?_
        exact J160 l4 0 oA pA kc wo wp Ho Hp h
      have J155 : ∀ (l4 : Int) (oA : AS) (pA : AS) (kc : Nat) (wo : va_W) (wp : va_W) (Ho : Xw a g (cl + kc) oA wo) (Hp : Xw b h9 (cl + kc) pA wp), F_L_law_b155 cv ag88 l4 oA pA kc = some res → J p l e room_1 s m args below meth c D A 7 Q kc (6 * kc) (wo ++ wp) 155 [(0, .ref bs), (1, .ref (a 0)), (2, .ref (b 0)), (4, .int (vI l4))] [] := by
        intro l4 oA pA kc wo wp Ho Hp h
        unfold F_L_law_b155 at h
        refine j_iconst C dL_law_155 ?_
        refine j_goto C 160 (by decide) dL_law_156 ?_
        exact J160 l4 1 oA pA kc wo wp Ho Hp h
      have J133 : ∀ (l4 : Int) (l5 : Int) (oA : AS) (pA : AS) (kc : Nat) (wo : va_W) (wp : va_W) (Ho : Xw a g (cl + kc) oA wo) (Hp : Xw b h9 (cl + kc) pA wp), F_L_law_b133 cv ag88 l4 l5 oA pA kc = some res → J p l e room_1 s m args below meth c D A 7 Q kc (6 * kc) (wo ++ wp) 133 [(0, .ref bs), (1, .ref (a 0)), (2, .ref (b 0)), (4, .int (vI l4)), (5, .int (vI l5))] [] := by
        intro l4 l5 oA pA kc wo wp Ho Hp h
        unfold F_L_law_b133 at h
        refine j_iload C 3 rfl dL_law_133 ?_
        refine j_bipush C (by decide) dL_law_135 ?_
        refine j_irem C h dL_law_137 (fun h => ?_)
        refine j_bipush C (by decide) dL_law_138 ?_
        refine j_nm2 h (fun v7 h => ?_)
        refine j_icmp_lt C h 155 (by decide) dL_law_140 (fun c11 h => ?_) (fun c11 h => ?_)
        · refine j_lv [0, 1, 2, 3] rfl ?_
          exact J155 l4 oA pA kc wo wp Ho Hp h
        · refine j_aload_n C 1 rfl rfl dL_law_143 ?_
          refine j_aload_n C 2 rfl rfl dL_law_144 ?_
          refine j_iload C 4 rfl dL_law_145 ?_
          refine j_iconst C dL_law_147 ?_
          refine j_ishr C dL_law_148 ?_
          obtain ⟨hkr8, h⟩ := G_of h
          obtain ⟨r8, hr8, h⟩ := Ob_of h
          refine J.eq (st' := [.int (vI (sx (iShr l5 3))), .ref (b 0), .ref (a 0)]) (by first | (simp only [sx_v]; done) | (simp only [sx_v]; rfl)) ?_
          refine j_callN C T (u := []) (wc := (wo ++ wp)) (v := []) (c_L_areAlike l D a g b h9 hl (cl + kc) (by omega) oA pA wo wp Ho Hp (sx (iShr l5 3)) r8 hr8) w825 w826 w0 w827 (n := 3) (by decide +kernel) ⟨(Nat.le_of_ble_eq_true rfl), (Nat.le_of_ble_eq_true rfl)⟩ rfl rfl rfl (ww _) C.2.2.2.2.2.2.1 (Nat.le_of_ble_eq_true rfl) rfl (Nat.le_trans hkr8 (Nat.le_of_ble_eq_true rfl)) (Nat.le_trans (show 6 * kc + 6 * 100 ≤ 6 * 40000 by omega) (Nat.le_of_ble_eq_true rfl)) dL_law_149 (fun w9 hpw9 _ => ?_)
          obtain ⟨w9o, w9p, rfl, Hw9o, Hw9p⟩ := hpw9
          refine j_cs (c1 := (kc + 100)) (s1 := 6 * (kc + 100)) (w1 := (w9o ++ w9p)) rfl (by omega) (ww _) ?_
          have hqw9 : Xw a g (cl + (kc + 100)) r8.2.1 w9o := Hw9o
          have hrw9 : Xw b h9 (cl + (kc + 100)) r8.2.2.1 w9p := Hw9p
          refine j_if_eq C h 159 (by decide) dL_law_152 (fun c10 h => ?_) (fun c10 h => ?_)
          · refine j_lv [0, 1, 2, 3] rfl ?_
            exact J159 l4 r8.2.1 r8.2.2.1 (kc + 100) w9o w9p hqw9 hrw9 h
          · refine j_lv [0, 1, 2, 3] rfl ?_
            exact J155 l4 r8.2.1 r8.2.2.1 (kc + 100) w9o w9p hqw9 hrw9 h
      unfold F_L_law_b88_body at h
      refine j_iload C 4 rfl dL_law_88 ?_
      refine j_bipush C (by decide) dL_law_90 ?_
      refine j_icmp_ge C h 167 (by decide) dL_law_92 (fun c22 h => ?_) (fun c22 h => ?_)
      · refine j_lv [0, 1, 3] rfl ?_
        exact J167 l3 oA pA kc wo wp Ho Hp h
      · refine j_iload_n C 3 rfl rfl dL_law_95 ?_
        refine j_if_eq C h 167 (by decide) dL_law_96 (fun c21 h => ?_) (fun c21 h => ?_)
        · refine j_lv [0, 1, 3] rfl ?_
          exact J167 l3 oA pA kc wo wp Ho Hp h
        · refine j_aload_n C 0 rfl rfl dL_law_99 ?_
          refine j_iload C 4 rfl dL_law_100 ?_
          obtain ⟨hce, h⟩ := G_of h
          refine j_cell C hX hbl hbA hLs (k := l4) hce.1 w377 w378 w0 w379 (Nat.le_of_ble_eq_true rfl) (Nat.le_of_ble_eq_true rfl) (Nat.le_of_ble_eq_true rfl) (Nat.le_trans hce.2 (Nat.le_of_ble_eq_true rfl)) (Nat.le_trans (Nat.mul_le_mul_left 6 hce.2) (Nat.le_of_ble_eq_true rfl)) dL_law_102 ?_
          rw [← hcv]
          refine j_nm h (fun v12 h => ?_)
          refine j_istore C [(5, .int (vI v12)), (0, .ref bs), (1, .ref (a 0)), (2, .ref (b 0)), (3, .int (vI l3)), (4, .int (vI l4))] rfl (by decide) dL_law_105 ?_
          refine j_aload_n C 2 rfl rfl dL_law_107 ?_
          refine j_iload C 0 rfl dL_law_108 ?_
          obtain ⟨hkr13, h⟩ := G_of h
          obtain ⟨r13, hr13, h⟩ := Ob_of h
          refine J.eq (st' := [.int (vI (sx v12)), .ref (a 0)]) (by first | (simp only [sx_v]; done) | (simp only [sx_v]; rfl)) ?_
          refine j_callN C T (u := []) (wc := wo) (v := wp) (c_L_act l D a g hl (cl + kc) (by omega) oA wo Ho (sx v12) r13 hr13) w384 w385 w0 w386 (n := 2) (by decide +kernel) ⟨(Nat.le_of_ble_eq_true rfl), (Nat.le_of_ble_eq_true rfl)⟩ rfl rfl rfl rfl (K_left C.2.2.2.2.2.2.1) (Nat.le_of_ble_eq_true rfl) rfl (Nat.le_trans hkr13 (Nat.le_of_ble_eq_true rfl)) (Nat.le_trans (show 6 * kc + 6 * 1 ≤ 6 * 40000 by omega) (Nat.le_of_ble_eq_true rfl)) dL_law_110 (fun w14 hpw14 _ => ?_)
          have hb15 := Xw_le (cl' := cl + (kc + 1)) (by omega) Hp
          refine j_cs (c1 := (kc + 1)) (s1 := 6 * (kc + 1)) (w1 := (w14 ++ wp)) rfl (by omega) rfl ?_
          have hqw14 : Xw a g (cl + (kc + 1)) r13.2.1 w14 := hpw14
          refine j_istore C [(6, .int (vI r13.1)), (5, .int (vI v12)), (0, .ref bs), (1, .ref (a 0)), (2, .ref (b 0)), (3, .int (vI l3)), (4, .int (vI l4))] rfl (by decide) dL_law_113 ?_
          refine j_iload C 0 rfl dL_law_115 ?_
          refine j_ldc C (n := (-99999999)) (by decide) w392 dL_law_117 ?_
          refine j_icmp_eq C h 133 (by decide) dL_law_119 (fun c20 h => ?_) (fun c20 h => ?_)
          · refine j_lv [2, 3, 4, 6, 1] rfl ?_
            exact J133 l4 v12 r13.2.1 pA (kc + 1) w14 wp hqw14 hb15 h
          · refine j_aload_n C 4 rfl rfl dL_law_122 ?_
            refine j_iload C 1 rfl dL_law_123 ?_
            obtain ⟨hkr16, h⟩ := G_of h
            obtain ⟨r16, hr16, h⟩ := Ob_of h
            refine J.eq (st' := [.int (vI (sx v12)), .ref (b 0)]) (by first | (simp only [sx_v]; done) | (simp only [sx_v]; rfl)) ?_
            refine j_callN C T (u := w14) (wc := wp) (v := []) (c_L_act l D b h9 hl (cl + (kc + 1)) (by omega) pA wp hb15 (sx v12) r16 hr16) w384 w385 w0 w386 (n := 2) (by decide +kernel) ⟨(Nat.le_of_ble_eq_true rfl), (Nat.le_of_ble_eq_true rfl)⟩ rfl rfl rfl (List.append_nil _) (K_right C.2.2.2.2.2.2.1) (Nat.le_of_ble_eq_true rfl) rfl (Nat.le_trans hkr16 (Nat.le_of_ble_eq_true rfl)) (Nat.le_trans (show 6 * (kc + 1) + 6 * 1 ≤ 6 * 40000 by omega) (Nat.le_of_ble_eq_true rfl)) dL_law_125 (fun w17 hpw17 _ => ?_)
            have hb18 := Xw_le (cl' := cl + ((kc + 1) + 1)) (by omega) hqw14
            refine j_cs (c1 := ((kc + 1) + 1)) (s1 := 6 * ((kc + 1) + 1)) (w1 := (w14 ++ w17)) rfl (by omega) (List.append_nil _) ?_
            have hqw17 : Xw b h9 (cl + ((kc + 1) + 1)) r16.2.1 w17 := hpw17
            refine j_iload C 0 rfl dL_law_128 ?_
            refine j_icmp_ne C h 159 (by decide) dL_law_130 (fun c19 h => ?_) (fun c19 h => ?_)
            · refine j_lv [2, 3, 4, 6] rfl ?_
              exact J159 l4 r13.2.1 r16.2.1 ((kc + 1) + 1) w14 w17 hb18 hqw17 h
            · refine j_lv [2, 3, 4, 6, 1] rfl ?_
              exact J133 l4 v12 r13.2.1 r16.2.1 ((kc + 1) + 1) w14 w17 hb18 hqw17 h
  have J21 : ∀ (n : Nat) (l3 : Int) (l4 : Int) (oA : AS) (pA : AS) (kc : Nat) (wo : va_W) (wp : va_W) (Ho : Xw a g (cl + kc) oA wo) (Hp : Xw b h9 (cl + kc) pA wp), F_L_law_b21 cv n l3 l4 oA pA kc = some res → J p l e room_1 s m args below meth c D A 7 Q kc (6 * kc) (wo ++ wp) 21 [(0, .ref bs), (1, .ref (a 0)), (2, .ref (b 0)), (3, .int (vI l3)), (4, .int (vI l4))] [] := by
    intro n
    induction n with
    | zero => intro l3 l4 oA pA kc wo wp Ho Hp h; exact no_h h
    | succ n ih21 =>
      intro l3 l4 oA pA kc wo wp Ho Hp h
      replace h : F_L_law_b21_body cv (F_L_law_b21 cv n) l3 l4 oA pA kc = some res := h
      generalize F_L_law_b21 cv n = ag21 at ih21 h
      have J78 : ∀ (l4 : Int) (s0 : Int) (oA : AS) (pA : AS) (kc : Nat) (wo : va_W) (wp : va_W) (Ho : Xw a g (cl + kc) oA wo) (Hp : Xw b h9 (cl + kc) pA wp), F_L_law_b78 cv ag21 l4 s0 oA pA kc = some res → J p l e room_1 s m args below meth c D A 7 Q kc (6 * kc) (wo ++ wp) 78 [(0, .ref bs), (1, .ref (a 0)), (2, .ref (b 0)), (4, .int (vI l4))] [.int (vI s0)] := by
        intro l4 s0 oA pA kc wo wp Ho Hp h
        unfold F_L_law_b78 at h
        refine j_istore_n C [(3, .int (vI s0)), (0, .ref bs), (1, .ref (a 0)), (2, .ref (b 0)), (4, .int (vI l4))] rfl rfl (by decide) dL_law_78 ?_
        refine j_iinc C 4 rfl (fun v => [(4, .int (vI v)), (3, .int (vI s0)), (0, .ref bs), (1, .ref (a 0)), (2, .ref (b 0))]) (fun _ => rfl) (by decide) h dL_law_79 (fun v23 h => ?_)
        refine j_goto C 21 (by decide) dL_law_82 ?_
        refine j_lv [2, 3, 4, 1, 0] rfl ?_
        exact ih21 s0 v23 oA pA kc wo wp Ho Hp h
      have J77 : ∀ (l4 : Int) (oA : AS) (pA : AS) (kc : Nat) (wo : va_W) (wp : va_W) (Ho : Xw a g (cl + kc) oA wo) (Hp : Xw b h9 (cl + kc) pA wp), F_L_law_b77 cv ag21 l4 oA pA kc = some res → J p l e room_1 s m args below meth c D A 7 Q kc (6 * kc) (wo ++ wp) 77 [(0, .ref bs), (1, .ref (a 0)), (2, .ref (b 0)), (4, .int (vI l4))] [] := by
        intro l4 oA pA kc wo wp Ho Hp h
        unfold F_L_law_b77 at h
        refine j_iconst C dL_law_77 ?_
        exact J78 l4 0 oA pA kc wo wp Ho Hp h
      unfold F_L_law_b21_body at h
      refine j_iload C 4 rfl dL_law_21 ?_
      refine j_iconst C dL_law_23 ?_
      refine j_icmp_ge C h 85 (by decide) dL_law_24 (fun c40 h => ?_) (fun c40 h => ?_)
      · refine j_iconst C dL_law_85 ?_
        refine j_istore C [(4, .int (vI 1)), (0, .ref bs), (1, .ref (a 0)), (2, .ref (b 0)), (3, .int (vI l3))] rfl (by decide) dL_law_86 ?_
        refine j_lv [1, 2, 3, 4, 0] rfl ?_
        exact J88 NN l3 1 oA pA kc wo wp Ho Hp h
      · refine j_aload_n C 0 rfl rfl dL_law_27 ?_
        refine j_iconst C dL_law_28 ?_
        obtain ⟨hce, h⟩ := G_of h
        refine j_cell C hX hbl hbA hLs (k := 0) hce.1 w377 w378 w0 w379 (Nat.le_of_ble_eq_true rfl) (Nat.le_of_ble_eq_true rfl) (Nat.le_of_ble_eq_true rfl) (Nat.le_trans hce.2 (Nat.le_of_ble_eq_true rfl)) (Nat.le_trans (Nat.mul_le_mul_left 6 hce.2) (Nat.le_of_ble_eq_true rfl)) dL_law_29 ?_
        rw [← hcv]
        refine j_iconst C dL_law_32 ?_
        refine j_iload C 4 rfl dL_law_33 ?_
        refine j_imul C dL_law_35 ?_
        refine j_ishr C dL_law_36 ?_
        refine j_iconst C dL_law_37 ?_
        obtain ⟨hkr24, h⟩ := G_of h
        obtain ⟨r24, hr24, h⟩ := Ob_of h
        refine q_L_77 C (u := []) (v := []) (wc := (wo ++ wp)) (wc' := (wo ++ wp)) (c_L_low l D _ _ (iShr (cv 0) (4 * l4)) 4 r24 hr24) ⟨(Nat.le_of_ble_eq_true rfl), (Nat.le_of_ble_eq_true rfl)⟩ rfl rfl rfl (ww _) (ww _) rfl C.2.2.2.2.2.2.1 (Nat.le_of_ble_eq_true rfl) rfl rfl (Nat.le_trans hkr24 (Nat.le_of_ble_eq_true rfl)) (Nat.le_trans (Nat.mul_le_mul_left 6 hkr24) (Nat.le_of_ble_eq_true rfl)) dL_law_38 ?_
        refine j_istore C [(5, .int (vI r24)), (0, .ref bs), (1, .ref (a 0)), (2, .ref (b 0)), (3, .int (vI l3)), (4, .int (vI l4))] rfl (by decide) dL_law_41 ?_
        refine j_iload_n C 4 rfl rfl dL_law_43 ?_
        refine j_if_eq C h 77 (by decide) dL_law_44 (fun c39 h => ?_) (fun c39 h => ?_)
        · refine j_lv [1, 2, 3, 5] rfl ?_
          exact J77 l4 oA pA kc wo wp Ho Hp h
        · refine j_aload_n C 2 rfl rfl dL_law_47 ?_
          refine j_iload C 0 rfl dL_law_48 ?_
          obtain ⟨hkr25, h⟩ := G_of h
          obtain ⟨r25, hr25, h⟩ := Ob_of h
          refine J.eq (st' := [.int (vI (sx r24)), .ref (a 0)]) (by first | (simp only [sx_v]; done) | (simp only [sx_v]; rfl)) ?_
          refine dj_place C (u := []) (wc := wo) (v := wp) Ho (by omega) (sx_in _) hr25 rfl (K_left C.2.2.2.2.2.2.1) (Nat.le_of_ble_eq_true rfl) (Nat.le_of_ble_eq_true rfl) (Nat.le_of_ble_eq_true rfl) (Nat.le_trans hkr25 (Nat.le_of_ble_eq_true rfl)) (Nat.le_trans (show 6 * kc + 6 * 1 ≤ 6 * 40000 by omega) (Nat.le_of_ble_eq_true rfl)) dL_law_50 (fun w26 hpw26 _ => ?_)
          have hb27 := Xw_le (cl' := cl + (kc + 1)) (by omega) Hp
          refine j_cs (c1 := (kc + 1)) (s1 := 6 * (kc + 1)) (w1 := (w26 ++ wp)) rfl (by omega) rfl ?_
          have hqw26 : Xw a g (cl + (kc + 1)) r25.2 w26 := hpw26
          refine j_aload_n C 3 rfl rfl dL_law_53 ?_
          refine j_iload C 0 rfl dL_law_54 ?_
          obtain ⟨hkr28, h⟩ := G_of h
          obtain ⟨r28, hr28, h⟩ := Ob_of h
          refine J.eq (st' := [.int (vI (sx r24)), .ref (b 0), .int (vI r25.1)]) (by first | (simp only [sx_v]; done) | (simp only [sx_v]; rfl)) ?_
          refine dj_place C (u := w26) (wc := wp) (v := []) hb27 (by omega) (sx_in _) hr28 (List.append_nil _) (K_right C.2.2.2.2.2.2.1) (Nat.le_of_ble_eq_true rfl) (Nat.le_of_ble_eq_true rfl) (Nat.le_of_ble_eq_true rfl) (Nat.le_trans hkr28 (Nat.le_of_ble_eq_true rfl)) (Nat.le_trans (show 6 * (kc + 1) + 6 * 1 ≤ 6 * 40000 by omega) (Nat.le_of_ble_eq_true rfl)) dL_law_56 (fun w29 hpw29 _ => ?_)
          have hb30 := Xw_le (cl' := cl + ((kc + 1) + 1)) (by omega) hqw26
          refine j_cs (c1 := ((kc + 1) + 1)) (s1 := 6 * ((kc + 1) + 1)) (w1 := (w26 ++ w29)) rfl (by omega) (List.append_nil _) ?_
          have hqw29 : Xw b h9 (cl + ((kc + 1) + 1)) r28.2 w29 := hpw29
          refine j_icmp_ne C h 77 (by decide) dL_law_59 (fun c38 h => ?_) (fun c38 h => ?_)
          · refine j_lv [1, 2, 3, 5] rfl ?_
            exact J77 l4 r25.2 r28.2 ((kc + 1) + 1) w26 w29 hb30 hqw29 h
          · refine j_aload_n C 2 rfl rfl dL_law_62 ?_
            obtain ⟨hkr31, h⟩ := G_of h
            obtain ⟨r31, hr31, h⟩ := Ob_of h
            refine dj_firing C (u := []) (wc := w26) (v := w29) hb30 (by omega)  hr31 rfl (K_left C.2.2.2.2.2.2.1) (Nat.le_of_ble_eq_true rfl) (Nat.le_of_ble_eq_true rfl) (Nat.le_of_ble_eq_true rfl) (Nat.le_trans hkr31 (Nat.le_of_ble_eq_true rfl)) (Nat.le_trans (show 6 * ((kc + 1) + 1) + 6 * 1 ≤ 6 * 40000 by omega) (Nat.le_of_ble_eq_true rfl)) dL_law_63 (fun w32 hpw32 _ => ?_)
            have hb33 := Xw_le (cl' := cl + (((kc + 1) + 1) + 1)) (by omega) hqw29
            refine j_cs (c1 := (((kc + 1) + 1) + 1)) (s1 := 6 * (((kc + 1) + 1) + 1)) (w1 := (w32 ++ w29)) rfl (by omega) rfl ?_
            have hqw32 : Xw a g (cl + (((kc + 1) + 1) + 1)) r31.2 w32 := hpw32
            refine j_aload_n C 3 rfl rfl dL_law_66 ?_
            obtain ⟨hkr34, h⟩ := G_of h
            obtain ⟨r34, hr34, h⟩ := Ob_of h
            refine dj_firing C (u := w32) (wc := w29) (v := []) hb33 (by omega)  hr34 (List.append_nil _) (K_right C.2.2.2.2.2.2.1) (Nat.le_of_ble_eq_true rfl) (Nat.le_of_ble_eq_true rfl) (Nat.le_of_ble_eq_true rfl) (Nat.le_trans hkr34 (Nat.le_of_ble_eq_true rfl)) (Nat.le_trans (show 6 * (((kc + 1) + 1) + 1) + 6 * 1 ≤ 6 * 40000 by omega) (Nat.le_of_ble_eq_true rfl)) dL_law_67 (fun w35 hpw35 _ => ?_)
            have hb36 := Xw_le (cl' := cl + ((((kc + 1) + 1) + 1) + 1)) (by omega) hqw32
            refine j_cs (c1 := ((((kc + 1) + 1) + 1) + 1)) (s1 := 6 * ((((kc + 1) + 1) + 1) + 1)) (w1 := (w32 ++ w35)) rfl (by omega) (List.append_nil _) ?_
            have hqw35 : Xw b h9 (cl + ((((kc + 1) + 1) + 1) + 1)) r34.2 w35 := hpw35
            refine j_icmp_ne C h 77 (by decide) dL_law_70 (fun c37 h => ?_) (fun c37 h => ?_)
            · refine j_lv [1, 2, 3, 5] rfl ?_
              exact J77 l4 r31.2 r34.2 ((((kc + 1) + 1) + 1) + 1) w32 w35 hb36 hqw35 h
            · refine j_iconst C dL_law_73 ?_
              refine j_goto C 78 (by decide) dL_law_74 ?_
              refine j_lv [1, 2, 3, 5] rfl ?_
              exact J78 l4 1 r31.2 r34.2 ((((kc + 1) + 1) + 1) + 1) w32 w35 hb36 hqw35 h
  unfold F_L_law at h
  refine j_iconst C dL_law_16 ?_
  refine j_istore_n C [(3, .int (vI 1)), (0, .ref bs), (1, .ref (a 0)), (2, .ref (b 0))] rfl rfl (by decide) dL_law_17 ?_
  refine j_iconst C dL_law_18 ?_
  refine j_istore C [(4, .int (vI 0)), (3, .int (vI 1)), (0, .ref bs), (1, .ref (a 0)), (2, .ref (b 0))] rfl (by decide) dL_law_19 ?_
  refine j_lv [2, 3, 4, 1, 0] rfl ?_
  exact J21 NN 1 0 oA pA kc wo wp Ho Hp h
end WK
