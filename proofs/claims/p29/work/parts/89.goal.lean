/-! the law is true of every script -/
def A00 : AS := (0, 0, 0, 0, zf, zf, zf)
theorem ea_00 (c : Nat) : EA c A00 := ⟨_, _, _, _, _, _, _, _, _, _, _, _, _, _, _, _, _, _, _, _, _, _, _, _, _, _, _, _, _, _, _, _, _, _, _, _, _, _, _, _, _, _, _, _, _, _, _, _, _, _, _, _, _, _, _, _, _, sim_init c⟩
theorem wf_00 : wF A00 := fun f _ _ k p _ _ _ _ => rfl
def ONE (o : Option (Int × AS × AS × Nat)) : Prop := ∃ r, o = some r ∧ r.1 = 1
section LT
variable {cv : Int → Int}
theorem l_167 {A : AS} {kc : Nat} (E : EA kc A) (hk : kc ≤ 39500) (hP : 3 ≤ A.1) (hw : wF A) : ONE (F_L_law_b167 cv 1 A A kc) := by
  obtain ⟨r, h1, h2⟩ := so_ok E (by omega) hP hw (sx (cv 90))
  unfold F_L_law_b167
  refine G_e (by omega) (el_e (by omega) (G_e (by omega) (G_e (by omega) (Ob_e h1 (G_e (by omega) (el_e (by omega) (G_e (by omega) (G_e (Or.inr rfl) (so_e rfl)))))))))
theorem l_88 : ∀ (fu : Nat) (e : Int) (A : AS) (kc : Nat), 1 ≤ e → e ≤ 90 → 90 - e < fu → (kc : Int) ≤ 30012 + 102 * e → EA kc A → 3 ≤ A.1 → wF A → ONE (F_L_law_b88 cv fu 1 e A A kc) := by
  intro fu
  induction fu with
  | zero => intro e A kc h1 h2 h3; exact absurd h3 (by omega)
  | succ fu ih =>
    intro e A kc h1 h2 h3 h4 E hP hw
    show ONE (F_L_law_b88_body cv (F_L_law_b88 cv fu) 1 e A A kc)
    unfold F_L_law_b88_body
    refine G_e (by omega) ?_
    by_cases c90 : 90 ≤ e
    · exact if_e c90 (l_167 E (by omega) hP hw)
    · obtain ⟨r, a1, a2, a3, a4, a5, a6⟩ := act_ok E (by omega) (sx (cv e))
      have nx : ∀ (B : AS) (kc' : Nat), (kc' : Int) ≤ 30012 + 102 * (e + 1) → EA kc' B → 3 ≤ B.1 → wF B → ONE (F_L_law_b155 cv (F_L_law_b88 cv fu) e B B kc') := fun B kc' k1 k2 k3 k4 => by
        unfold F_L_law_b155 F_L_law_b160
        exact Bd_e (ih (e + 1) B kc' (by omega) (by omega) (by omega) k1 k2 k3 k4)
      have t133 : ∀ (B : AS) (kc' : Nat) (x : Int), (kc' : Int) ≤ 30014 + 102 * e → EA kc' B → 3 ≤ B.1 → wF B → ONE (F_L_law_b133 cv (F_L_law_b88 cv fu) e x B B kc') := fun B kc' x k1 k2 k3 k4 => by
        unfold F_L_law_b133
        refine G_e (by omega) (Bd_e ?_)
        rw [iRem_ok (by omega) (by omega)]
        refine G_e (by omega) ?_
        by_cases y : e % 30 < 29
        · exact if_e y (nx B kc' (by omega) k2 k3 k4)
        · obtain ⟨r8, g1, g2, g3, g4⟩ := alike_ok k2 (by omega) (sx (iShr x 3))
          refine el_e y (G_e (by omega) (Ob_e g1 (G_e (by omega) (el_e (by omega) ?_))))
          rw [g3, g4]
          exact nx B _ (by omega) (EA_le (by omega) k2) k3 k4
      refine el_e c90 (G_e (by omega) (el_e (by omega) (G_e (by omega) (Bd_e (G_e (by omega) (Ob_e a1 (G_e ⟨a3, by omega⟩ ?_)))))))
      by_cases y : r.1 = -99999999
      · refine if_e y ?_
        have e9 := a4 y
        rw [e9] at a2 ⊢
        exact t133 A _ _ (by omega) a2 hP hw
      · refine el_e y (G_e (by omega) (Ob_e a1 (G_e ⟨a3, a3⟩ (if_e rfl ?_))))
        exact t133 _ _ _ (by omega) (EA_le (by omega) a2) (by omega) (a6 hw)
theorem l_21 : ∀ (fu : Nat) (i : Int) (tok : Nat → Int) (kc : Nat), 0 ≤ i → i ≤ 3 → 3 - i < fu → (kc : Int) ≤ 30000 + 4 * i → EA kc (i, i, 0, 0, tok, zf, zf) → ONE (F_L_law_b21 cv fu 1 i (i, i, 0, 0, tok, zf, zf) (i, i, 0, 0, tok, zf, zf) kc) := by
  intro fu
  induction fu with
  | zero => intro i tok kc h1 h2 h3; exact absurd h3 (by omega)
  | succ fu ih =>
    intro i tok kc h1 h2 h3 h4 E
    show ONE (F_L_law_b21_body cv (F_L_law_b21 cv fu) 1 i (i, i, 0, 0, tok, zf, zf) (i, i, 0, 0, tok, zf, zf) kc)
    unfold F_L_law_b21_body
    refine G_e (by omega) ?_
    by_cases c3 : 3 ≤ i
    · refine if_e c3 (l_88 NN 1 _ kc (by omega) (by omega) (NN_gt (by omega)) (by omega) E (by dsimp only; omega) (fun f _ _ k p _ _ _ _ => rfl))
    · obtain ⟨x, l1, l2, l3⟩ := low_ok (iShr (cv 0) (4 * i)) (n := 4) (by omega)
      have ex := sx_id (x := x) (by omega)
      rcases v_place (P := i) (F := i) (D := 0) (L := 0) (tok := tok) (w := zf) (lg := zf) (x := x) (by omega) (by omega) with ⟨z, -⟩ | ⟨-, p1⟩
      · exact absurd (by omega) z
      · obtain ⟨r1, a1, a2, a3, -⟩ := ea_place E (by omega : inR x) (by omega)
        obtain rfl : r1 = _ := Option.some.inj (a1.symm.trans (dx_place_ax p1))
        dsimp only at a2
        rcases v_firing (P := i + 1) (F := i) (D := 0) (L := 0) (tok := uI tok i.toNat x) (w := zf) (lg := zf) (by omega) with ⟨z, -⟩ | ⟨-, f1, f2⟩
        · omega
        · obtain ⟨r2, b1, b2, b3, -⟩ := ea_firing a2 (by omega)
          obtain rfl : r2 = _ := Option.some.inj (b1.symm.trans f2)
          dsimp only at b2
          refine el_e c3 (G_e (by omega) (G_e (by omega) (Ob_e l1 (G_e (by omega) (el_e (by omega) (G_e (by omega) ?_))))))
          rw [ex]
          refine Ob_e p1 (G_e (by omega) (Ob_e p1 (G_e (by dsimp only; omega) (if_e rfl (G_e (by omega) (Ob_e f1 (G_e (by omega) (Ob_e f1 (G_e (by dsimp only; omega) (if_e rfl ?_))))))))))
          unfold F_L_law_b78
          exact Bd_e (ih (i + 1) _ _ (by omega) (by omega) (by omega) (by omega) (EA_le (by omega) b2))
end LT
theorem law_true (cv : Int → Int) : ∃ r, F_L_law cv A00 A00 30000 = some r ∧ r.1 = 1 := by
  unfold F_L_law
  exact l_21 NN 0 zf 30000 (by omega) (by omega) (NN_gt (by omega)) (by omega) (ea_00 30000)
