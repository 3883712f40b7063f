/-! act: it has an answer, and what throws leaves the abstract state -/
def wF (A : AS) : Prop := ∀ f : Int, A.2.1 ≤ f → f < 8 → idle 6 A.2.2.2.2.2.1 f
def LA (cl : Nat) (A : AS) (o : Option (Int × AS)) : Prop := ∃ r, o = some r ∧ EA (cl + 1) r.2 ∧ inR r.1 ∧ (r.1 = -99999999 → r.2 = A) ∧ A.1 ≤ r.2.1 ∧ (wF A → wF r.2)
theorem LA_ob {cl : Nat} {A : AS} {o : Option (Int × AS)} {r : Int × AS} (h : o = some r) (hE : EA (cl + 1) r.2) (hi : inR r.1) (e : r.2 = A) : LA cl A o := ⟨r, h, hE, hi, fun _ => e, by rw [e]; exact Int.le_refl _, by rw [e]; exact id⟩
theorem la_tokens {cl : Nat} {A : AS} {x1 : Int} (E : EA cl A) (hc : cl + 1 ≤ 900000) : LA cl A (ax_tokens (sx x1) A) := by
  obtain ⟨r, h1, h2, h3, -⟩ := ea_tokens E (sx_in _) hc
  exact LA_ob h1 h2 h3 (oa_tokens h1)
theorem la_can {cl : Nat} {A : AS} {x1 : Int} (E : EA cl A) (hc : cl + 1 ≤ 900000) : LA cl A (ax_can (sx x1) A) := by
  obtain ⟨r, h1, h2, h3, -⟩ := ea_can E (sx_in _) hc
  exact LA_ob h1 h2 h3 (oa_can h1)
theorem la_graph {cl : Nat} {A : AS} {x1 : Int} (E : EA cl A) (hc : cl + 1 ≤ 900000) : LA cl A (ax_graph (sx x1) A) := by
  obtain ⟨r, h1, h2, h3, -⟩ := ea_graph E (sx_in _) hc
  exact LA_ob h1 h2 h3 (oa_graph h1)
theorem la_marking {cl : Nat} {A : AS} {x1 : Int} {x2 : Int} (E : EA cl A) (hc : cl + 1 ≤ 900000) : LA cl A (ax_marking (sx x1) (sx x2) A) := by
  obtain ⟨r, h1, h2, h3, -⟩ := ea_marking E (sx_in _) (sx_in _) hc
  exact LA_ob h1 h2 h3 (oa_marking h1)
theorem la_most {cl : Nat} {A : AS} {x1 : Int} (E : EA cl A) (hc : cl + 1 ≤ 900000) : LA cl A (ax_most (sx x1) A) := by
  obtain ⟨r, h1, h2, h3, -⟩ := ea_most E (sx_in _) hc
  exact LA_ob h1 h2 h3 (oa_most h1)
theorem la_level {cl : Nat} {A : AS} {x1 : Int} (E : EA cl A) (hc : cl + 1 ≤ 900000) : LA cl A (ax_level (sx x1) A) := by
  obtain ⟨r, h1, h2, h3, -⟩ := ea_level E (sx_in _) hc
  exact LA_ob h1 h2 h3 (oa_level h1)
theorem la_way {cl : Nat} {A : AS} {x1 : Int} {x2 : Int} (E : EA cl A) (hc : cl + 1 ≤ 900000) : LA cl A (ax_way (sx x1) (sx x2) A) := by
  obtain ⟨r, h1, h2, h3, -⟩ := ea_way E (sx_in _) (sx_in _) hc
  exact LA_ob h1 h2 h3 (oa_way h1)
theorem la_step {cl : Nat} {A : AS} {x1 : Int} {x2 : Int} {x3 : Int} (E : EA cl A) (hc : cl + 1 ≤ 900000) : LA cl A (ax_step (sx x1) (sx x2) (sx x3) A) := by
  obtain ⟨r, h1, h2, h3, -⟩ := ea_step E (sx_in _) (sx_in _) (sx_in _) hc
  exact LA_ob h1 h2 h3 (oa_step h1)
theorem la_rows {cl : Nat} {A : AS}  (E : EA cl A) (hc : cl + 1 ≤ 900000) : LA cl A (dx_rows  A) := by
  obtain ⟨r, h1, h2, h3⟩ := ea_rows E  hc
  exact LA_ob h1 h2 h3 (od_rows h1)
theorem la_row {cl : Nat} {A : AS} {x1 : Int} {x2 : Int} (E : EA cl A) (hc : cl + 1 ≤ 900000) : LA cl A (ax_row (sx x1) (sx x2) A) := by
  obtain ⟨r, h1, h2, h3, -⟩ := ea_row E (sx_in _) (sx_in _) hc
  exact LA_ob h1 h2 h3 (oa_row h1)
theorem la_mostByRows {cl : Nat} {A : AS} {x1 : Int} (E : EA cl A) (hc : cl + 1 ≤ 900000) : LA cl A (ax_mostByRows (sx x1) A) := by
  obtain ⟨r, h1, h2, h3, -⟩ := ea_mostByRows E (sx_in _) hc
  exact LA_ob h1 h2 h3 (oa_mostByRows h1)
theorem la_rounds {cl : Nat} {A : AS}  (E : EA cl A) (hc : cl + 1 ≤ 900000) : LA cl A (dx_rounds  A) := by
  obtain ⟨r, h1, h2, h3⟩ := ea_rounds E  hc
  exact LA_ob h1 h2 h3 (od_rounds h1)
theorem la_round {cl : Nat} {A : AS} {x1 : Int} {x2 : Int} (E : EA cl A) (hc : cl + 1 ≤ 900000) : LA cl A (ax_round (sx x1) (sx x2) A) := by
  obtain ⟨r, h1, h2, h3, -⟩ := ea_round E (sx_in _) (sx_in _) hc
  exact LA_ob h1 h2 h3 (oa_round h1)
theorem la_keeps {cl : Nat} {A : AS}  (E : EA cl A) (hc : cl + 1 ≤ 900000) : LA cl A (dx_keeps  A) := by
  obtain ⟨r, h1, h2, h3⟩ := ea_keeps E  hc
  exact LA_ob h1 h2 h3 (od_keeps h1)
theorem la_siphons {cl : Nat} {A : AS}  (E : EA cl A) (hc : cl + 1 ≤ 900000) : LA cl A (dx_siphons  A) := by
  obtain ⟨r, h1, h2, h3⟩ := ea_siphons E  hc
  exact LA_ob h1 h2 h3 (od_siphons h1)
theorem la_siphon {cl : Nat} {A : AS} {x1 : Int} (E : EA cl A) (hc : cl + 1 ≤ 900000) : LA cl A (ax_siphon (sx x1) A) := by
  obtain ⟨r, h1, h2, h3, -⟩ := ea_siphon E (sx_in _) hc
  exact LA_ob h1 h2 h3 (oa_siphon h1)
theorem la_trap {cl : Nat} {A : AS} {x1 : Int} (E : EA cl A) (hc : cl + 1 ≤ 900000) : LA cl A (ax_trap (sx x1) A) := by
  obtain ⟨r, h1, h2, h3, -⟩ := ea_trap E (sx_in _) hc
  exact LA_ob h1 h2 h3 (oa_trap h1)
theorem la_isPromising {cl : Nat} {A : AS}  (E : EA cl A) (hc : cl + 1 ≤ 900000) : LA cl A (dx_isPromising  A) := by
  obtain ⟨r, h1, h2, h3⟩ := ea_isPromising E  hc
  exact LA_ob h1 h2 h3 (od_isPromising h1)
theorem la_goes {cl : Nat} {A : AS}  (E : EA cl A) (hc : cl + 1 ≤ 900000) : LA cl A (dx_goes  A) := by
  obtain ⟨r, h1, h2, h3⟩ := ea_goes E  hc
  exact LA_ob h1 h2 h3 (od_goes h1)
theorem la_cost {cl : Nat} {A : AS}  (E : EA cl A) (hc : cl + 1 ≤ 900000) : LA cl A (dx_cost  A) := by
  obtain ⟨r, h1, h2, h3⟩ := ea_cost E  hc
  exact LA_ob h1 h2 h3 (od_cost h1)
theorem LA_w {cl : Nat} {A A' : AS} {o : Option (Int × AS)} {r : Int × AS} {v : Int} (h : o = some r) (hE : EA (cl + 1) r.2) (hi : inR r.1) (hr : o = some (-99999999, A) ∨ (0 ≤ v ∧ o = some (v, A') ∧ A.1 ≤ A'.1 ∧ (wF A → wF A'))) : LA cl A o := by
  refine ⟨r, h, hE, hi, ?_⟩
  rcases hr with hr | ⟨h0, hr, h1, h2⟩
  · obtain rfl : r = _ := Option.some.inj (h.symm.trans hr)
    exact ⟨fun _ => rfl, Int.le_refl _, id⟩
  · obtain rfl : r = _ := Option.some.inj (h.symm.trans hr)
    exact ⟨fun z => absurd z (by dsimp only; omega), h1, h2⟩
theorem in_n {x a b : Int} (hx : inR x) (ha : inR a) (hb : inR b) (h : ¬ (a ≤ x ∧ x ≤ b)) : F_X6_in x a b = some 0 := by
  obtain ⟨r, h1, h2⟩ := in_ok hx ha hb
  rcases h2 with ⟨-, h2⟩ | ⟨rfl, -⟩
  · exact absurd h2 h
  · exact h1
theorem v_place {P F D L x : Int} {tok w lg : Nat → Int} (hP : 0 ≤ P ∧ P ≤ 6) (hx : inR x) : (¬ ((0 ≤ x ∧ x ≤ 99) ∧ P < 6) ∧ ax_place x (P, F, D, L, tok, w, lg) = some (-99999999, (P, F, D, L, tok, w, lg))) ∨ (P < 6 ∧ dx_place x (P, F, D, L, tok, w, lg) = some (P, (P + 1, F, D, L, uI tok P.toNat x, w, lg))) := by
  by_cases c : 0 ≤ x ∧ x ≤ 99
  · by_cases d : P = 6
    · refine Or.inl ⟨by omega, ?_⟩
      unfold ax_place F_X6_place F_X6_place_b31
      exact Ob_i (y := (0, 2, P, tok)) (Ob_i (in_c hx (by omega) (by omega) c) (G_i (by omega) (el_i (by omega) (G_i (by dsimp only; omega) (if_i d (Ob_i (goesWell_n (by omega) (by omega)) (G_i (by omega) (if_i rfl rfl)))))))) rfl
    · refine Or.inr ⟨by omega, ?_⟩
      have e : P + 1 - 1 = P := by omega
      unfold dx_place F_X6_place F_X6_place_b31
      refine Ob_i (y := (P + 1 - 1, 0, P + 1, uI tok P.toNat x)) (Ob_i (in_c hx (by omega) (by omega) c) (G_i (by omega) (el_i (by omega) (G_i (by dsimp only; omega) (el_i d (Ob_i goesWell_0 (G_i (by omega) (el_i (by omega) (G_i (by dsimp only; omega) (Bd_i (Bd_i rfl))))))))))) (G_i rfl ?_)
      rw [e]
  · refine Or.inl ⟨fun z => c z.1, ?_⟩
    unfold ax_place F_X6_place F_X6_place_b31
    exact Ob_i (y := (0, 1, P, tok)) (Ob_i (in_n hx (by omega) (by omega) c) (G_i (by omega) (if_i rfl (Ob_i (goesWell_n (by omega) (by omega)) (G_i (by omega) (if_i rfl rfl)))))) rfl
theorem la_place {cl : Nat} {A : AS} {x : Int} (E : EA cl A) (hc : cl + 1 ≤ 900000) : LA cl A (ax_place (sx x) A) := by
  obtain ⟨r, h1, h2, h3, -⟩ := ea_place E (sx_in x) hc
  obtain ⟨P, F, D, L, tok, w, lg⟩ := A
  have hP := (EA_WA E).1
  dsimp only at hP
  rcases v_place (F := F) (D := D) (L := L) (tok := tok) (w := w) (lg := lg) hP (sx_in x) with ⟨-, h⟩ | ⟨h0, h⟩
  · exact LA_w (v := 0) (A' := (P, F, D, L, tok, w, lg)) h1 h2 h3 (Or.inl h)
  · exact LA_w h1 h2 h3 (Or.inr ⟨hP.1, dx_place_ax h, by dsimp only; omega, fun z => z⟩)
theorem la_firing {cl : Nat} {A : AS} (E : EA cl A) (hc : cl + 1 ≤ 900000) : LA cl A (ax_firing A) := by
  obtain ⟨r, h1, h2, h3, -⟩ := ea_firing E hc
  obtain ⟨P, F, D, L, tok, w, lg⟩ := A
  have hF := (EA_WA E).2.1
  dsimp only at hF
  rcases v_firing (P := P) (D := D) (L := L) (tok := tok) (w := w) (lg := lg) hF with ⟨-, h⟩ | ⟨h0, -, h⟩
  · exact LA_w (v := 0) (A' := (P, F, D, L, tok, w, lg)) h1 h2 h3 (Or.inl h)
  · exact LA_w h1 h2 h3 (Or.inr ⟨hF.1, h, Int.le_refl _, fun z f f1 f2 => z f (by dsimp only at f1 ⊢; omega) f2⟩)
theorem la_log {cl : Nat} {A : AS} {x : Int} (E : EA cl A) (hc : cl + 1 ≤ 900000) : LA cl A (ax_log (sx x) A) := by
  obtain ⟨r, h1, h2, h3, -⟩ := ea_log E (sx_in x) hc
  obtain ⟨P, F, D, L, tok, w, lg⟩ := A
  obtain ⟨-, hF, -, -, -, hL, -⟩ := EA_WA E
  dsimp only at hF hL
  rcases v_log (P := P) (D := D) (tok := tok) (w := w) (lg := lg) hF hL (sx_in x) with h | ⟨h0, lg', h⟩
  · exact LA_w (v := 0) (A' := (P, F, D, L, tok, w, lg)) h1 h2 h3 (Or.inl h)
  · exact LA_w h1 h2 h3 (Or.inr ⟨by omega, h, Int.le_refl _, fun z => z⟩)
theorem la_blank {cl : Nat} {A : AS} (E : EA cl A) (hc : cl + 1 ≤ 900000) : LA cl A (dx_blank A) := by
  obtain ⟨r, h1, h2, h3⟩ := ea_blank E hc
  obtain ⟨P, F, D, L, tok, w, lg⟩ := A
  obtain ⟨-, -, -, -, -, hL, -⟩ := EA_WA E
  exact LA_w h1 h2 h3 (Or.inr ⟨hL.1, v_blank, Int.le_refl _, fun z => z⟩)
theorem la_fire {cl : Nat} {A : AS} {x : Int} (E : EA cl A) (hc : cl + 1 ≤ 900000) : LA cl A (ax_fire (sx x) A) := by
  obtain ⟨r, h1, h2, h3, -⟩ := ea_fire E (sx_in x) hc
  obtain ⟨P, F, D, L, tok, w, lg⟩ := A
  obtain ⟨hP, hF, w1, -, w3, -, w5⟩ := EA_WA E
  dsimp only at hP hF w1 w3 w5
  obtain ⟨m0, l1, l2, -⟩ := layNow_ok (tok := tok) (marks := zf) hP
  by_cases c : 0 ≤ sx x ∧ sx x < F
  · have hrow : tOk P (row m0 0) := fun p p1 p2 => by rw [l2 p p1 p2]; exact w3 p p1 p2
    by_cases d : can P w (tk tok) (sx x)
    · obtain ⟨tok', t1, -⟩ := v_fire (D := D) (L := L) (lg := lg) w1 hP hF w3 c d
      exact LA_w h1 h2 h3 (Or.inr ⟨by omega, dx_fire_ax t1, Int.le_refl _, fun z => z⟩)
    · obtain ⟨r9, g9, i9⟩ := canIn_ok (marks := m0) (m := 0) (f := sx x) hP w1 (by omega) (by omega) hrow
      have z9 : r9 = 0 := by
        rcases i9 with q | q
        · exact absurd (can_eq (eqP_sm l2) q.2) d
        · exact q.1
      subst z9
      refine LA_w (v := 0) (A' := (P, F, D, L, tok, w, lg)) h1 h2 h3 (Or.inl ?_)
      unfold ax_fire F_X6_fire F_X6_fire_b33
      exact Ob_i (y := (0, 2, D, tok, m0)) (Ob_i l1 (Ob_i (isFiring_c hF c) (G_i (by omega) (el_i (by omega) (Ob_i g9 (G_i (by omega) (if_i rfl (Ob_i (goesWell_n (by omega) (by omega)) (G_i (by omega) (if_i rfl rfl)))))))))) rfl
  · refine LA_w (v := 0) (A' := (P, F, D, L, tok, w, lg)) h1 h2 h3 (Or.inl ?_)
    unfold ax_fire F_X6_fire F_X6_fire_b33
    exact Ob_i (y := (0, 1, D, tok, m0)) (Ob_i l1 (Ob_i (isFiring_n (sx_in x) hF c) (G_i (by omega) (if_i rfl (Ob_i (goesWell_n (by omega) (by omega)) (G_i (by omega) (if_i rfl rfl))))))) rfl
theorem arc_none {P F x1 x2 x3 x4 : Int} {w : Nat → Int} (i3 : inR x3) (i4 : inR x4) (no : ∀ t : Int, inR t → t ≠ 0 → F_X6_arc_b78 P F x1 x2 x3 x4 t 0 w = some (0, t, w)) : F_X6_arc_b20 P F x1 x2 x3 x4 0 w = some (0, 1, w) := by
  have fin : ∀ s0 : Int, inR s0 → F_X6_arc_b56 P F x1 x2 x3 x4 0 s0 0 w = some (0, 1, w) := fun s0 _ => by
    unfold F_X6_arc_b56
    exact G_i (by omega) (if_i rfl (no 1 (by omega) (by omega)))
  have f55 : F_X6_arc_b55 P F x1 x2 x3 x4 0 0 w = some (0, 1, w) := by
    unfold F_X6_arc_b55
    exact fin 0 (by omega)
  have f45 : ∀ b : Int, inR b → F_X6_arc_b45 P F x1 x2 x3 x4 0 x4 0 b 0 w = some (0, 1, w) := fun b hb => by
    unfold F_X6_arc_b45
    by_cases q : 0 ≤ x4 ∧ x4 ≤ b
    · exact Ob_i (in_c i4 (by omega) hb q) (G_i (by omega) (el_i (by omega) (fin 1 (by omega))))
    · exact Ob_i (in_n i4 (by omega) hb q) (G_i (by omega) (if_i rfl f55))
  unfold F_X6_arc_b20 F_X6_arc_b21
  by_cases q3 : 0 ≤ x3 ∧ x3 ≤ 4
  · refine Ob_i (in_c i3 (by omega) (by omega) q3) (G_i (by omega) (el_i (by omega) (G_i (by omega) ?_)))
    by_cases q : x3 = 4
    · exact if_i q (f45 1 (by omega))
    · exact el_i q (f45 3 (by omega))
  · exact Ob_i (in_n i3 (by omega) (by omega) q3) (G_i (by omega) (if_i rfl f55))
theorem la_arc {cl : Nat} {A : AS} {x1 x2 x3 x4 : Int} (E : EA cl A) (i1 : inR x1) (i2 : inR x2) (i3 : inR x3) (i4 : inR x4) (hc : cl + 1 ≤ 900000) : LA cl A (ax_arc x1 x2 x3 x4 A) := by
  obtain ⟨r, h1, h2, h3, -⟩ := ea_arc E i1 i2 i3 i4 hc
  obtain ⟨P, F, D, L, tok, w, lg⟩ := A
  obtain ⟨hP, hF, w1, -, w3, -, w5⟩ := EA_WA E
  dsimp only at hP hF w1 w3 w5
  have no : ∀ t : Int, inR t → t ≠ 0 → F_X6_arc_b78 P F x1 x2 x3 x4 t 0 w = some (0, t, w) := fun t ht h0 => by
    unfold F_X6_arc_b78
    exact Ob_i (goesWell_n ht h0) (G_i (by omega) (if_i rfl rfl))
  have out : ∀ t : Int, t ≠ 0 → F_X6_arc x1 x2 x3 x4 P F 0 w = some (0, t, w) → LA cl (P, F, D, L, tok, w, lg) (ax_arc x1 x2 x3 x4 (P, F, D, L, tok, w, lg)) := fun t h0 ht => by
    refine LA_w (v := 0) (A' := (P, F, D, L, tok, w, lg)) h1 h2 h3 (Or.inl ?_)
    unfold ax_arc
    refine Ob_i ht ?_
    show some ((if t = 0 then (0 : Int) else -99999999), _) = _
    rw [if_neg h0]
  by_cases c1 : 0 ≤ x1 ∧ x1 < F
  · by_cases c2 : 0 ≤ x2 ∧ x2 < P
    · by_cases c3 : (0 ≤ x3 ∧ x3 ≤ 4) ∧ 0 ≤ x4 ∧ x4 ≤ (if x3 = 4 then 1 else 3)
      · -- it is laid
        have hx4 : 0 ≤ x4 ∧ x4 ≤ 3 := by
          have := c3.2
          split at this <;> omega
        have hj : F_X6_arc x1 x2 x3 x4 P F 0 w = some (w ((48 * x3 + 6 * x1) + x2).toNat, 0, uI w ((48 * x3 + 6 * x1) + x2).toNat x4) := by
          have hw6 : F_X6_weight x3 x1 x2 w = some (w ((48 * x3 + 6 * x1) + x2).toNat) := by
            have e := wt6_ok (w := w) (k := x3) (f := x1) (p := x2) (by omega) (by omega) (by omega)
            rw [e]
            unfold wt
            rw [show (x3 * 8 + x1) * 6 + x2 = (48 * x3 + 6 * x1) + x2 by omega]
          have lay : F_X6_arc_b78 P F x1 x2 x3 x4 0 0 w = some (w ((48 * x3 + 6 * x1) + x2).toNat, 0, uI w ((48 * x3 + 6 * x1) + x2).toNat x4) := by
            unfold F_X6_arc_b78
            exact Ob_i goesWell_0 (G_i (by omega) (el_i (by omega) (Ob_i hw6 (Bd_i (G_i (by omega) (Bd_i rfl))))))
          have fin : F_X6_arc_b56 P F x1 x2 x3 x4 1 1 0 w = some (w ((48 * x3 + 6 * x1) + x2).toNat, 0, uI w ((48 * x3 + 6 * x1) + x2).toNat x4) := by
            unfold F_X6_arc_b56
            exact G_i (by omega) (el_i (by omega) (G_i (by omega) (el_i (by omega) lay)))
          unfold F_X6_arc F_X6_arc_b21
          refine Ob_i (isFiring_c hF c1) (G_i (by omega) (el_i (by omega) (Ob_i (isPlace_c hP c2) (G_i (by omega) (el_i (by omega) (Ob_i (in_c i3 (by omega) (by omega) c3.1) (G_i (by omega) (el_i (by omega) (G_i (by omega) ?_)))))))))
          by_cases q : x3 = 4
          · have h9 := c3.2
            rw [if_pos q] at h9
            refine if_i q ?_
            unfold F_X6_arc_b45
            exact Ob_i (in_c i4 (by omega) (by omega) h9) (G_i (by omega) (el_i (by omega) fin))
          · have h9 := c3.2
            rw [if_neg q] at h9
            refine el_i q ?_
            unfold F_X6_arc_b45
            exact Ob_i (in_c i4 (by omega) (by omega) h9) (G_i (by omega) (el_i (by omega) fin))
        have hv : 0 ≤ w ((48 * x3 + 6 * x1) + x2).toNat := by
          have := (w1.1 x3 x1 x2 (by omega) (by omega) (by omega) (by omega) (by omega) (by omega)).1
          unfold wt at this
          rw [show (x3 * 8 + x1) * 6 + x2 = (48 * x3 + 6 * x1) + x2 by omega] at this
          exact this
        refine LA_w h1 h2 h3 (Or.inr ⟨hv, ?_, Int.le_refl _, fun z f f1 f2 k p k1 k2 p1 p2 => ?_⟩) (A' := (P, F, D, L, tok, uI w ((48 * x3 + 6 * x1) + x2).toNat x4, lg))
        · unfold ax_arc
          exact Ob_i hj rfl
        · dsimp only at f1
          have := z f f1 f2 k p k1 k2 p1 p2
          unfold wt at this ⊢
          dsimp only at this ⊢
          rw [uI_ne _ _ (by omega)]
          exact this
      · -- another argument is out of its range
        have fin : ∀ s0 : Int, s0 = 0 → F_X6_arc_b56 P F x1 x2 x3 x4 1 s0 0 w = some (0, 2, w) := fun s0 hs => by
          unfold F_X6_arc_b56
          exact G_i (by omega) (el_i (by omega) (G_i (by omega) (if_i hs (no 2 (by omega) (by omega)))))
        refine out 2 (by omega) ?_
        unfold F_X6_arc F_X6_arc_b21
        refine Ob_i (isFiring_c hF c1) (G_i (by omega) (el_i (by omega) (Ob_i (isPlace_c hP c2) (G_i (by omega) (el_i (by omega) ?_)))))
        by_cases q3 : 0 ≤ x3 ∧ x3 ≤ 4
        · refine Ob_i (in_c i3 (by omega) (by omega) q3) (G_i (by omega) (el_i (by omega) (G_i (by omega) ?_)))
          by_cases q : x3 = 4
          · refine if_i q ?_
            unfold F_X6_arc_b45 F_X6_arc_b55
            exact Ob_i (in_n i4 (by omega) (by omega) (fun z => c3 ⟨q3, by rw [if_pos q]; exact z⟩)) (G_i (by omega) (if_i rfl (fin 0 rfl)))
          · refine el_i q ?_
            unfold F_X6_arc_b45 F_X6_arc_b55
            exact Ob_i (in_n i4 (by omega) (by omega) (fun z => c3 ⟨q3, by rw [if_neg q]; exact z⟩)) (G_i (by omega) (if_i rfl (fin 0 rfl)))
        · refine Ob_i (in_n i3 (by omega) (by omega) q3) (G_i (by omega) (if_i rfl ?_))
          unfold F_X6_arc_b55
          exact fin 0 rfl
    · -- no such place
      refine out 1 (by omega) ?_
      have b20 : F_X6_arc_b20 P F x1 x2 x3 x4 0 w = some (0, 1, w) := arc_none i3 i4 no
      unfold F_X6_arc
      exact Ob_i (isFiring_c hF c1) (G_i (by omega) (el_i (by omega) (Ob_i (isPlace_n i2 hP c2) (G_i (by omega) (if_i rfl b20)))))
  · refine out 1 (by omega) ?_
    have b20 : F_X6_arc_b20 P F x1 x2 x3 x4 0 w = some (0, 1, w) := arc_none i3 i4 no
    unfold F_X6_arc
    exact Ob_i (isFiring_n i1 hF c1) (G_i (by omega) (if_i rfl b20))
def AO (cl : Nat) (A : AS) (o : Option (Int × AS × Nat)) : Prop := ∃ r, o = some r ∧ EA (cl + 1) r.2.1 ∧ inR r.1 ∧ (r.1 = -99999999 → r.2.1 = A) ∧ A.1 ≤ r.2.1.1 ∧ (wF A → wF r.2.1)
theorem AO_leaf {cl : Nat} {A : AS} {o : Option (Int × AS)} (h : LA cl A o) : AO cl A (G (0 + 1 ≤ 1) (Ob o (fun r => G (0 + 1 ≤ 1) (some (r.1, r.2, 0 + 1))))) := by
  obtain ⟨r, h1, h2⟩ := h
  exact ⟨(r.1, r.2, 0 + 1), G_i (by omega) (Ob_i h1 (G_i (by omega) rfl)), h2⟩
theorem AO_z {cl : Nat} {A : AS} {o : Option (Int × AS)} (h : LA cl A o) : AO cl A (G (0 + 1 ≤ 1) (Ob o (fun r => G (inR r.1) (if r.1 = 0 then G (0 + 1 ≤ 1) (some (0, r.2, 0 + 1)) else G (0 + 1 ≤ 1) (some (1, r.2, 0 + 1)))))) := by
  obtain ⟨r, h1, h2, h3, -, h5⟩ := h
  by_cases q : r.1 = 0
  · exact ⟨(0, r.2, 0 + 1), G_i (by omega) (Ob_i h1 (G_i h3 (if_i q (G_i (by omega) rfl)))), h2, by dsimp only; omega, fun z => absurd z (by dsimp only; omega), h5⟩
  · exact ⟨(1, r.2, 0 + 1), G_i (by omega) (Ob_i h1 (G_i h3 (el_i q (G_i (by omega) rfl)))), h2, by dsimp only; omega, fun z => absurd z (by dsimp only; omega), h5⟩
theorem low_ok (x : Int) {n : Int} (hn : 0 < n ∧ n < 2147483648) : ∃ r, F_L_low x n = some r ∧ 0 ≤ r ∧ r < n := by
  have h1 : (vI x &&& vI 2147483647) = nI ((vI x).toBitVec.toNat % 2 ^ 31) := pk_and (vI x) (m := vI 2147483647) 31 (by decide)
  have h2 : (vI x).toBitVec.toNat % 2 ^ 31 < 2147483648 := Nat.mod_lt _ (by decide)
  have h3 := nI_toInt (n := (vI x).toBitVec.toNat % 2 ^ 31) (by omega)
  have h4 : 0 ≤ iAnd x 2147483647 ∧ iAnd x 2147483647 < 2147483648 := by
    unfold iAnd
    rw [h1, h3]
    omega
  unfold F_L_low
  refine ⟨_, G_i (by omega) rfl, ?_⟩
  rw [iRem_ok h4 hn]
  exact ⟨Int.emod_nonneg _ (by omega), Int.emod_lt_of_pos _ hn.1⟩
section AC
variable {cl : Nat} {A : AS}
theorem AO_g {c : Prop} [Decidable c] {k : Option (Int × AS × Nat)} (hc : c) (h : AO cl A k) : AO cl A (G c k) := by
  unfold G
  rw [if_pos hc]
  exact h
theorem AO_i {c : Prop} [Decidable c] {a b : Option (Int × AS × Nat)} (h1 : c → AO cl A a) (h2 : ¬ c → AO cl A b) : AO cl A (if c then a else b) := by
  by_cases q : c
  · rw [if_pos q]; exact h1 q
  · rw [if_neg q]; exact h2 q
theorem AO_l {x n : Int} {k : Int → Option (Int × AS × Nat)} (hn : 0 < n ∧ n < 2147483648) (h : ∀ r : Int, 0 ≤ r → r < n → AO cl A (k r)) : AO cl A (Ob (F_L_low x n) k) := by
  obtain ⟨r, h1, h2, h3⟩ := low_ok x hn
  rw [h1]
  exact h r h2 h3
theorem a_b727 (E : EA cl A) (hc : cl + 1 ≤ 900000)  : AO cl A (F_L_act_b727  A 0) := by
  unfold F_L_act_b727
  first | with_reducible exact AO_leaf (la_place E hc) | with_reducible exact AO_leaf (la_firing E hc) | with_reducible exact AO_leaf (la_tokens E hc) | with_reducible exact AO_leaf (la_can E hc) | with_reducible exact AO_leaf (la_fire E hc) | with_reducible exact AO_leaf (la_graph E hc) | with_reducible exact AO_leaf (la_marking E hc) | with_reducible exact AO_leaf (la_most E hc) | with_reducible exact AO_leaf (la_level E hc) | with_reducible exact AO_leaf (la_way E hc) | with_reducible exact AO_leaf (la_step E hc) | with_reducible exact AO_leaf (la_rows E hc) | with_reducible exact AO_leaf (la_row E hc) | with_reducible exact AO_leaf (la_mostByRows E hc) | with_reducible exact AO_leaf (la_rounds E hc) | with_reducible exact AO_leaf (la_round E hc) | with_reducible exact AO_leaf (la_siphons E hc) | with_reducible exact AO_leaf (la_siphon E hc) | with_reducible exact AO_leaf (la_trap E hc) | with_reducible exact AO_leaf (la_log E hc) | with_reducible exact AO_leaf (la_blank E hc) | with_reducible exact AO_leaf (la_goes E hc) | with_reducible exact AO_leaf (la_cost E hc) | with_reducible exact AO_leaf (la_arc E (by first | exact sx_in _ | decide) (by first | exact sx_in _ | decide) (by first | exact sx_in _ | decide) (by first | exact sx_in _ | decide) hc) | with_reducible exact AO_z (la_keeps E hc) | with_reducible exact AO_z (la_isPromising E hc)
theorem a_b722 (E : EA cl A) (hc : cl + 1 ≤ 900000)  : AO cl A (F_L_act_b722  A 0) := by
  unfold F_L_act_b722
  first | with_reducible exact AO_leaf (la_place E hc) | with_reducible exact AO_leaf (la_firing E hc) | with_reducible exact AO_leaf (la_tokens E hc) | with_reducible exact AO_leaf (la_can E hc) | with_reducible exact AO_leaf (la_fire E hc) | with_reducible exact AO_leaf (la_graph E hc) | with_reducible exact AO_leaf (la_marking E hc) | with_reducible exact AO_leaf (la_most E hc) | with_reducible exact AO_leaf (la_level E hc) | with_reducible exact AO_leaf (la_way E hc) | with_reducible exact AO_leaf (la_step E hc) | with_reducible exact AO_leaf (la_rows E hc) | with_reducible exact AO_leaf (la_row E hc) | with_reducible exact AO_leaf (la_mostByRows E hc) | with_reducible exact AO_leaf (la_rounds E hc) | with_reducible exact AO_leaf (la_round E hc) | with_reducible exact AO_leaf (la_siphons E hc) | with_reducible exact AO_leaf (la_siphon E hc) | with_reducible exact AO_leaf (la_trap E hc) | with_reducible exact AO_leaf (la_log E hc) | with_reducible exact AO_leaf (la_blank E hc) | with_reducible exact AO_leaf (la_goes E hc) | with_reducible exact AO_leaf (la_cost E hc) | with_reducible exact AO_leaf (la_arc E (by first | exact sx_in _ | decide) (by first | exact sx_in _ | decide) (by first | exact sx_in _ | decide) (by first | exact sx_in _ | decide) hc) | with_reducible exact AO_z (la_keeps E hc) | with_reducible exact AO_z (la_isPromising E hc)
theorem a_b692 (E : EA cl A) (hc : cl + 1 ≤ 900000) (l4 : Int) : AO cl A (F_L_act_b692 l4 A 0) := by
  unfold F_L_act_b692
  first | with_reducible exact AO_leaf (la_place E hc) | with_reducible exact AO_leaf (la_firing E hc) | with_reducible exact AO_leaf (la_tokens E hc) | with_reducible exact AO_leaf (la_can E hc) | with_reducible exact AO_leaf (la_fire E hc) | with_reducible exact AO_leaf (la_graph E hc) | with_reducible exact AO_leaf (la_marking E hc) | with_reducible exact AO_leaf (la_most E hc) | with_reducible exact AO_leaf (la_level E hc) | with_reducible exact AO_leaf (la_way E hc) | with_reducible exact AO_leaf (la_step E hc) | with_reducible exact AO_leaf (la_rows E hc) | with_reducible exact AO_leaf (la_row E hc) | with_reducible exact AO_leaf (la_mostByRows E hc) | with_reducible exact AO_leaf (la_rounds E hc) | with_reducible exact AO_leaf (la_round E hc) | with_reducible exact AO_leaf (la_siphons E hc) | with_reducible exact AO_leaf (la_siphon E hc) | with_reducible exact AO_leaf (la_trap E hc) | with_reducible exact AO_leaf (la_log E hc) | with_reducible exact AO_leaf (la_blank E hc) | with_reducible exact AO_leaf (la_goes E hc) | with_reducible exact AO_leaf (la_cost E hc) | with_reducible exact AO_leaf (la_arc E (by first | exact sx_in _ | decide) (by first | exact sx_in _ | decide) (by first | exact sx_in _ | decide) (by first | exact sx_in _ | decide) hc) | with_reducible exact AO_z (la_keeps E hc) | with_reducible exact AO_z (la_isPromising E hc)
theorem a_b675 (E : EA cl A) (hc : cl + 1 ≤ 900000) (s1 : Int) : AO cl A (F_L_act_b675 s1 A 0) := by
  unfold F_L_act_b675
  first | with_reducible exact AO_leaf (la_place E hc) | with_reducible exact AO_leaf (la_firing E hc) | with_reducible exact AO_leaf (la_tokens E hc) | with_reducible exact AO_leaf (la_can E hc) | with_reducible exact AO_leaf (la_fire E hc) | with_reducible exact AO_leaf (la_graph E hc) | with_reducible exact AO_leaf (la_marking E hc) | with_reducible exact AO_leaf (la_most E hc) | with_reducible exact AO_leaf (la_level E hc) | with_reducible exact AO_leaf (la_way E hc) | with_reducible exact AO_leaf (la_step E hc) | with_reducible exact AO_leaf (la_rows E hc) | with_reducible exact AO_leaf (la_row E hc) | with_reducible exact AO_leaf (la_mostByRows E hc) | with_reducible exact AO_leaf (la_rounds E hc) | with_reducible exact AO_leaf (la_round E hc) | with_reducible exact AO_leaf (la_siphons E hc) | with_reducible exact AO_leaf (la_siphon E hc) | with_reducible exact AO_leaf (la_trap E hc) | with_reducible exact AO_leaf (la_log E hc) | with_reducible exact AO_leaf (la_blank E hc) | with_reducible exact AO_leaf (la_goes E hc) | with_reducible exact AO_leaf (la_cost E hc) | with_reducible exact AO_leaf (la_arc E (by first | exact sx_in _ | decide) (by first | exact sx_in _ | decide) (by first | exact sx_in _ | decide) (by first | exact sx_in _ | decide) hc) | with_reducible exact AO_z (la_keeps E hc) | with_reducible exact AO_z (la_isPromising E hc)
theorem a_b652 (E : EA cl A) (hc : cl + 1 ≤ 900000) (s1 : Int) : AO cl A (F_L_act_b652 s1 A 0) := by
  unfold F_L_act_b652
  first | with_reducible exact AO_leaf (la_place E hc) | with_reducible exact AO_leaf (la_firing E hc) | with_reducible exact AO_leaf (la_tokens E hc) | with_reducible exact AO_leaf (la_can E hc) | with_reducible exact AO_leaf (la_fire E hc) | with_reducible exact AO_leaf (la_graph E hc) | with_reducible exact AO_leaf (la_marking E hc) | with_reducible exact AO_leaf (la_most E hc) | with_reducible exact AO_leaf (la_level E hc) | with_reducible exact AO_leaf (la_way E hc) | with_reducible exact AO_leaf (la_step E hc) | with_reducible exact AO_leaf (la_rows E hc) | with_reducible exact AO_leaf (la_row E hc) | with_reducible exact AO_leaf (la_mostByRows E hc) | with_reducible exact AO_leaf (la_rounds E hc) | with_reducible exact AO_leaf (la_round E hc) | with_reducible exact AO_leaf (la_siphons E hc) | with_reducible exact AO_leaf (la_siphon E hc) | with_reducible exact AO_leaf (la_trap E hc) | with_reducible exact AO_leaf (la_log E hc) | with_reducible exact AO_leaf (la_blank E hc) | with_reducible exact AO_leaf (la_goes E hc) | with_reducible exact AO_leaf (la_cost E hc) | with_reducible exact AO_leaf (la_arc E (by first | exact sx_in _ | decide) (by first | exact sx_in _ | decide) (by first | exact sx_in _ | decide) (by first | exact sx_in _ | decide) hc) | with_reducible exact AO_z (la_keeps E hc) | with_reducible exact AO_z (la_isPromising E hc)
theorem a_b610 (E : EA cl A) (hc : cl + 1 ≤ 900000) (l4 : Int) (s1 : Int) : AO cl A (F_L_act_b610 l4 s1 A 0) := by
  unfold F_L_act_b610
  first | with_reducible exact AO_leaf (la_place E hc) | with_reducible exact AO_leaf (la_firing E hc) | with_reducible exact AO_leaf (la_tokens E hc) | with_reducible exact AO_leaf (la_can E hc) | with_reducible exact AO_leaf (la_fire E hc) | with_reducible exact AO_leaf (la_graph E hc) | with_reducible exact AO_leaf (la_marking E hc) | with_reducible exact AO_leaf (la_most E hc) | with_reducible exact AO_leaf (la_level E hc) | with_reducible exact AO_leaf (la_way E hc) | with_reducible exact AO_leaf (la_step E hc) | with_reducible exact AO_leaf (la_rows E hc) | with_reducible exact AO_leaf (la_row E hc) | with_reducible exact AO_leaf (la_mostByRows E hc) | with_reducible exact AO_leaf (la_rounds E hc) | with_reducible exact AO_leaf (la_round E hc) | with_reducible exact AO_leaf (la_siphons E hc) | with_reducible exact AO_leaf (la_siphon E hc) | with_reducible exact AO_leaf (la_trap E hc) | with_reducible exact AO_leaf (la_log E hc) | with_reducible exact AO_leaf (la_blank E hc) | with_reducible exact AO_leaf (la_goes E hc) | with_reducible exact AO_leaf (la_cost E hc) | with_reducible exact AO_leaf (la_arc E (by first | exact sx_in _ | decide) (by first | exact sx_in _ | decide) (by first | exact sx_in _ | decide) (by first | exact sx_in _ | decide) hc) | with_reducible exact AO_z (la_keeps E hc) | with_reducible exact AO_z (la_isPromising E hc)
theorem a_b576 (E : EA cl A) (hc : cl + 1 ≤ 900000) (l3 : Int) (s1 : Int) : AO cl A (F_L_act_b576 l3 s1 A 0) := by
  unfold F_L_act_b576
  first | with_reducible exact AO_leaf (la_place E hc) | with_reducible exact AO_leaf (la_firing E hc) | with_reducible exact AO_leaf (la_tokens E hc) | with_reducible exact AO_leaf (la_can E hc) | with_reducible exact AO_leaf (la_fire E hc) | with_reducible exact AO_leaf (la_graph E hc) | with_reducible exact AO_leaf (la_marking E hc) | with_reducible exact AO_leaf (la_most E hc) | with_reducible exact AO_leaf (la_level E hc) | with_reducible exact AO_leaf (la_way E hc) | with_reducible exact AO_leaf (la_step E hc) | with_reducible exact AO_leaf (la_rows E hc) | with_reducible exact AO_leaf (la_row E hc) | with_reducible exact AO_leaf (la_mostByRows E hc) | with_reducible exact AO_leaf (la_rounds E hc) | with_reducible exact AO_leaf (la_round E hc) | with_reducible exact AO_leaf (la_siphons E hc) | with_reducible exact AO_leaf (la_siphon E hc) | with_reducible exact AO_leaf (la_trap E hc) | with_reducible exact AO_leaf (la_log E hc) | with_reducible exact AO_leaf (la_blank E hc) | with_reducible exact AO_leaf (la_goes E hc) | with_reducible exact AO_leaf (la_cost E hc) | with_reducible exact AO_leaf (la_arc E (by first | exact sx_in _ | decide) (by first | exact sx_in _ | decide) (by first | exact sx_in _ | decide) (by first | exact sx_in _ | decide) hc) | with_reducible exact AO_z (la_keeps E hc) | with_reducible exact AO_z (la_isPromising E hc)
theorem a_b549 (E : EA cl A) (hc : cl + 1 ≤ 900000) (s1 : Int) (s2 : Int) (s3 : Int) : AO cl A (F_L_act_b549 s1 s2 s3 A 0) := by
  unfold F_L_act_b549
  first | with_reducible exact AO_leaf (la_place E hc) | with_reducible exact AO_leaf (la_firing E hc) | with_reducible exact AO_leaf (la_tokens E hc) | with_reducible exact AO_leaf (la_can E hc) | with_reducible exact AO_leaf (la_fire E hc) | with_reducible exact AO_leaf (la_graph E hc) | with_reducible exact AO_leaf (la_marking E hc) | with_reducible exact AO_leaf (la_most E hc) | with_reducible exact AO_leaf (la_level E hc) | with_reducible exact AO_leaf (la_way E hc) | with_reducible exact AO_leaf (la_step E hc) | with_reducible exact AO_leaf (la_rows E hc) | with_reducible exact AO_leaf (la_row E hc) | with_reducible exact AO_leaf (la_mostByRows E hc) | with_reducible exact AO_leaf (la_rounds E hc) | with_reducible exact AO_leaf (la_round E hc) | with_reducible exact AO_leaf (la_siphons E hc) | with_reducible exact AO_leaf (la_siphon E hc) | with_reducible exact AO_leaf (la_trap E hc) | with_reducible exact AO_leaf (la_log E hc) | with_reducible exact AO_leaf (la_blank E hc) | with_reducible exact AO_leaf (la_goes E hc) | with_reducible exact AO_leaf (la_cost E hc) | with_reducible exact AO_leaf (la_arc E (by first | exact sx_in _ | decide) (by first | exact sx_in _ | decide) (by first | exact sx_in _ | decide) (by first | exact sx_in _ | decide) hc) | with_reducible exact AO_z (la_keeps E hc) | with_reducible exact AO_z (la_isPromising E hc)
theorem a_b517 (E : EA cl A) (hc : cl + 1 ≤ 900000) (s1 : Int) (s2 : Int) : AO cl A (F_L_act_b517 s1 s2 A 0) := by
  unfold F_L_act_b517
  first | with_reducible exact AO_leaf (la_place E hc) | with_reducible exact AO_leaf (la_firing E hc) | with_reducible exact AO_leaf (la_tokens E hc) | with_reducible exact AO_leaf (la_can E hc) | with_reducible exact AO_leaf (la_fire E hc) | with_reducible exact AO_leaf (la_graph E hc) | with_reducible exact AO_leaf (la_marking E hc) | with_reducible exact AO_leaf (la_most E hc) | with_reducible exact AO_leaf (la_level E hc) | with_reducible exact AO_leaf (la_way E hc) | with_reducible exact AO_leaf (la_step E hc) | with_reducible exact AO_leaf (la_rows E hc) | with_reducible exact AO_leaf (la_row E hc) | with_reducible exact AO_leaf (la_mostByRows E hc) | with_reducible exact AO_leaf (la_rounds E hc) | with_reducible exact AO_leaf (la_round E hc) | with_reducible exact AO_leaf (la_siphons E hc) | with_reducible exact AO_leaf (la_siphon E hc) | with_reducible exact AO_leaf (la_trap E hc) | with_reducible exact AO_leaf (la_log E hc) | with_reducible exact AO_leaf (la_blank E hc) | with_reducible exact AO_leaf (la_goes E hc) | with_reducible exact AO_leaf (la_cost E hc) | with_reducible exact AO_leaf (la_arc E (by first | exact sx_in _ | decide) (by first | exact sx_in _ | decide) (by first | exact sx_in _ | decide) (by first | exact sx_in _ | decide) hc) | with_reducible exact AO_z (la_keeps E hc) | with_reducible exact AO_z (la_isPromising E hc)
theorem a_b479 (E : EA cl A) (hc : cl + 1 ≤ 900000) (l3 : Int) (s1 : Int) : AO cl A (F_L_act_b479 l3 s1 A 0) := by
  unfold F_L_act_b479
  first | with_reducible exact AO_leaf (la_place E hc) | with_reducible exact AO_leaf (la_firing E hc) | with_reducible exact AO_leaf (la_tokens E hc) | with_reducible exact AO_leaf (la_can E hc) | with_reducible exact AO_leaf (la_fire E hc) | with_reducible exact AO_leaf (la_graph E hc) | with_reducible exact AO_leaf (la_marking E hc) | with_reducible exact AO_leaf (la_most E hc) | with_reducible exact AO_leaf (la_level E hc) | with_reducible exact AO_leaf (la_way E hc) | with_reducible exact AO_leaf (la_step E hc) | with_reducible exact AO_leaf (la_rows E hc) | with_reducible exact AO_leaf (la_row E hc) | with_reducible exact AO_leaf (la_mostByRows E hc) | with_reducible exact AO_leaf (la_rounds E hc) | with_reducible exact AO_leaf (la_round E hc) | with_reducible exact AO_leaf (la_siphons E hc) | with_reducible exact AO_leaf (la_siphon E hc) | with_reducible exact AO_leaf (la_trap E hc) | with_reducible exact AO_leaf (la_log E hc) | with_reducible exact AO_leaf (la_blank E hc) | with_reducible exact AO_leaf (la_goes E hc) | with_reducible exact AO_leaf (la_cost E hc) | with_reducible exact AO_leaf (la_arc E (by first | exact sx_in _ | decide) (by first | exact sx_in _ | decide) (by first | exact sx_in _ | decide) (by first | exact sx_in _ | decide) hc) | with_reducible exact AO_z (la_keeps E hc) | with_reducible exact AO_z (la_isPromising E hc)
theorem a_b456 (E : EA cl A) (hc : cl + 1 ≤ 900000) (s1 : Int) : AO cl A (F_L_act_b456 s1 A 0) := by
  unfold F_L_act_b456
  first | with_reducible exact AO_leaf (la_place E hc) | with_reducible exact AO_leaf (la_firing E hc) | with_reducible exact AO_leaf (la_tokens E hc) | with_reducible exact AO_leaf (la_can E hc) | with_reducible exact AO_leaf (la_fire E hc) | with_reducible exact AO_leaf (la_graph E hc) | with_reducible exact AO_leaf (la_marking E hc) | with_reducible exact AO_leaf (la_most E hc) | with_reducible exact AO_leaf (la_level E hc) | with_reducible exact AO_leaf (la_way E hc) | with_reducible exact AO_leaf (la_step E hc) | with_reducible exact AO_leaf (la_rows E hc) | with_reducible exact AO_leaf (la_row E hc) | with_reducible exact AO_leaf (la_mostByRows E hc) | with_reducible exact AO_leaf (la_rounds E hc) | with_reducible exact AO_leaf (la_round E hc) | with_reducible exact AO_leaf (la_siphons E hc) | with_reducible exact AO_leaf (la_siphon E hc) | with_reducible exact AO_leaf (la_trap E hc) | with_reducible exact AO_leaf (la_log E hc) | with_reducible exact AO_leaf (la_blank E hc) | with_reducible exact AO_leaf (la_goes E hc) | with_reducible exact AO_leaf (la_cost E hc) | with_reducible exact AO_leaf (la_arc E (by first | exact sx_in _ | decide) (by first | exact sx_in _ | decide) (by first | exact sx_in _ | decide) (by first | exact sx_in _ | decide) hc) | with_reducible exact AO_z (la_keeps E hc) | with_reducible exact AO_z (la_isPromising E hc)
theorem a_b431 (E : EA cl A) (hc : cl + 1 ≤ 900000) (l4 : Int) : AO cl A (F_L_act_b431 l4 A 0) := by
  unfold F_L_act_b431
  first | with_reducible exact AO_leaf (la_place E hc) | with_reducible exact AO_leaf (la_firing E hc) | with_reducible exact AO_leaf (la_tokens E hc) | with_reducible exact AO_leaf (la_can E hc) | with_reducible exact AO_leaf (la_fire E hc) | with_reducible exact AO_leaf (la_graph E hc) | with_reducible exact AO_leaf (la_marking E hc) | with_reducible exact AO_leaf (la_most E hc) | with_reducible exact AO_leaf (la_level E hc) | with_reducible exact AO_leaf (la_way E hc) | with_reducible exact AO_leaf (la_step E hc) | with_reducible exact AO_leaf (la_rows E hc) | with_reducible exact AO_leaf (la_row E hc) | with_reducible exact AO_leaf (la_mostByRows E hc) | with_reducible exact AO_leaf (la_rounds E hc) | with_reducible exact AO_leaf (la_round E hc) | with_reducible exact AO_leaf (la_siphons E hc) | with_reducible exact AO_leaf (la_siphon E hc) | with_reducible exact AO_leaf (la_trap E hc) | with_reducible exact AO_leaf (la_log E hc) | with_reducible exact AO_leaf (la_blank E hc) | with_reducible exact AO_leaf (la_goes E hc) | with_reducible exact AO_leaf (la_cost E hc) | with_reducible exact AO_leaf (la_arc E (by first | exact sx_in _ | decide) (by first | exact sx_in _ | decide) (by first | exact sx_in _ | decide) (by first | exact sx_in _ | decide) hc) | with_reducible exact AO_z (la_keeps E hc) | with_reducible exact AO_z (la_isPromising E hc)
theorem a_b395 (E : EA cl A) (hc : cl + 1 ≤ 900000) (s1 : Int) (s2 : Int) (s3 : Int) (s4 : Int) : AO cl A (F_L_act_b395 s1 s2 s3 s4 A 0) := by
  unfold F_L_act_b395
  first | with_reducible exact AO_leaf (la_place E hc) | with_reducible exact AO_leaf (la_firing E hc) | with_reducible exact AO_leaf (la_tokens E hc) | with_reducible exact AO_leaf (la_can E hc) | with_reducible exact AO_leaf (la_fire E hc) | with_reducible exact AO_leaf (la_graph E hc) | with_reducible exact AO_leaf (la_marking E hc) | with_reducible exact AO_leaf (la_most E hc) | with_reducible exact AO_leaf (la_level E hc) | with_reducible exact AO_leaf (la_way E hc) | with_reducible exact AO_leaf (la_step E hc) | with_reducible exact AO_leaf (la_rows E hc) | with_reducible exact AO_leaf (la_row E hc) | with_reducible exact AO_leaf (la_mostByRows E hc) | with_reducible exact AO_leaf (la_rounds E hc) | with_reducible exact AO_leaf (la_round E hc) | with_reducible exact AO_leaf (la_siphons E hc) | with_reducible exact AO_leaf (la_siphon E hc) | with_reducible exact AO_leaf (la_trap E hc) | with_reducible exact AO_leaf (la_log E hc) | with_reducible exact AO_leaf (la_blank E hc) | with_reducible exact AO_leaf (la_goes E hc) | with_reducible exact AO_leaf (la_cost E hc) | with_reducible exact AO_leaf (la_arc E (by first | exact sx_in _ | decide) (by first | exact sx_in _ | decide) (by first | exact sx_in _ | decide) (by first | exact sx_in _ | decide) hc) | with_reducible exact AO_z (la_keeps E hc) | with_reducible exact AO_z (la_isPromising E hc)
set_option maxHeartbeats 4000000 in
theorem a_b438 (E : EA cl A) (hc : cl + 1 ≤ 900000) (l1 : Int) (l2 : Int) (l5 : Int) (h2 : l2 = 0 ∨ l2 = 1) : AO cl A (F_L_act_b438 l1 l2 l5 A 0) := by
  unfold F_L_act_b438
  repeat (first | (first | with_reducible exact a_b727 E hc  | with_reducible exact a_b722 E hc  | with_reducible exact a_b692 E hc _ | with_reducible exact a_b675 E hc _ | with_reducible exact a_b652 E hc _ | with_reducible exact a_b610 E hc _ _ | with_reducible exact a_b576 E hc _ _ | with_reducible exact a_b549 E hc _ _ _ | with_reducible exact a_b517 E hc _ _ | with_reducible exact a_b479 E hc _ _ | with_reducible exact a_b456 E hc _ | with_reducible exact a_b431 E hc _ | with_reducible exact a_b395 E hc _ _ _ _) | (with_reducible refine AO_l (by omega) (fun r _ _ => ?_)) | (with_reducible refine AO_i (fun _ => ?_) (fun _ => ?_)) | (first | with_reducible exact AO_leaf (la_place E hc) | with_reducible exact AO_leaf (la_firing E hc) | with_reducible exact AO_leaf (la_tokens E hc) | with_reducible exact AO_leaf (la_can E hc) | with_reducible exact AO_leaf (la_fire E hc) | with_reducible exact AO_leaf (la_graph E hc) | with_reducible exact AO_leaf (la_marking E hc) | with_reducible exact AO_leaf (la_most E hc) | with_reducible exact AO_leaf (la_level E hc) | with_reducible exact AO_leaf (la_way E hc) | with_reducible exact AO_leaf (la_step E hc) | with_reducible exact AO_leaf (la_rows E hc) | with_reducible exact AO_leaf (la_row E hc) | with_reducible exact AO_leaf (la_mostByRows E hc) | with_reducible exact AO_leaf (la_rounds E hc) | with_reducible exact AO_leaf (la_round E hc) | with_reducible exact AO_leaf (la_siphons E hc) | with_reducible exact AO_leaf (la_siphon E hc) | with_reducible exact AO_leaf (la_trap E hc) | with_reducible exact AO_leaf (la_log E hc) | with_reducible exact AO_leaf (la_blank E hc) | with_reducible exact AO_leaf (la_goes E hc) | with_reducible exact AO_leaf (la_cost E hc) | with_reducible exact AO_leaf (la_arc E (by first | exact sx_in _ | decide) (by first | exact sx_in _ | decide) (by first | exact sx_in _ | decide) (by first | exact sx_in _ | decide) hc) | with_reducible exact AO_z (la_keeps E hc) | with_reducible exact AO_z (la_isPromising E hc)) | (with_reducible refine AO_g (by omega) ?_))
set_option maxHeartbeats 4000000 in
theorem a_b375 (E : EA cl A) (hc : cl + 1 ≤ 900000) (l1 : Int) (l2 : Int) (l5 : Int) (s1 : Int) (s2 : Int) (s3 : Int) (h2 : l2 = 0 ∨ l2 = 1) : AO cl A (F_L_act_b375 l1 l2 l5 s1 s2 s3 A 0) := by
  unfold F_L_act_b375
  repeat (first | (first | with_reducible exact a_b727 E hc  | with_reducible exact a_b722 E hc  | with_reducible exact a_b692 E hc _ | with_reducible exact a_b675 E hc _ | with_reducible exact a_b652 E hc _ | with_reducible exact a_b610 E hc _ _ | with_reducible exact a_b576 E hc _ _ | with_reducible exact a_b549 E hc _ _ _ | with_reducible exact a_b517 E hc _ _ | with_reducible exact a_b479 E hc _ _ | with_reducible exact a_b456 E hc _ | with_reducible exact a_b431 E hc _ | with_reducible exact a_b395 E hc _ _ _ _ | with_reducible exact a_b438 E hc _ _ _ (by omega)) | (with_reducible refine AO_l (by omega) (fun r _ _ => ?_)) | (with_reducible refine AO_i (fun _ => ?_) (fun _ => ?_)) | (first | with_reducible exact AO_leaf (la_place E hc) | with_reducible exact AO_leaf (la_firing E hc) | with_reducible exact AO_leaf (la_tokens E hc) | with_reducible exact AO_leaf (la_can E hc) | with_reducible exact AO_leaf (la_fire E hc) | with_reducible exact AO_leaf (la_graph E hc) | with_reducible exact AO_leaf (la_marking E hc) | with_reducible exact AO_leaf (la_most E hc) | with_reducible exact AO_leaf (la_level E hc) | with_reducible exact AO_leaf (la_way E hc) | with_reducible exact AO_leaf (la_step E hc) | with_reducible exact AO_leaf (la_rows E hc) | with_reducible exact AO_leaf (la_row E hc) | with_reducible exact AO_leaf (la_mostByRows E hc) | with_reducible exact AO_leaf (la_rounds E hc) | with_reducible exact AO_leaf (la_round E hc) | with_reducible exact AO_leaf (la_siphons E hc) | with_reducible exact AO_leaf (la_siphon E hc) | with_reducible exact AO_leaf (la_trap E hc) | with_reducible exact AO_leaf (la_log E hc) | with_reducible exact AO_leaf (la_blank E hc) | with_reducible exact AO_leaf (la_goes E hc) | with_reducible exact AO_leaf (la_cost E hc) | with_reducible exact AO_leaf (la_arc E (by first | exact sx_in _ | decide) (by first | exact sx_in _ | decide) (by first | exact sx_in _ | decide) (by first | exact sx_in _ | decide) hc) | with_reducible exact AO_z (la_keeps E hc) | with_reducible exact AO_z (la_isPromising E hc)) | (with_reducible refine AO_g (by omega) ?_))
set_option maxHeartbeats 4000000 in
theorem a_b308 (E : EA cl A) (hc : cl + 1 ≤ 900000) (l1 : Int) (l2 : Int) (l3 : Int) (l4 : Int) (l5 : Int) (h2 : l2 = 0 ∨ l2 = 1) : AO cl A (F_L_act_b308 l1 l2 l3 l4 l5 A 0) := by
  unfold F_L_act_b308
  repeat (first | (first | with_reducible exact a_b727 E hc  | with_reducible exact a_b722 E hc  | with_reducible exact a_b692 E hc _ | with_reducible exact a_b675 E hc _ | with_reducible exact a_b652 E hc _ | with_reducible exact a_b610 E hc _ _ | with_reducible exact a_b576 E hc _ _ | with_reducible exact a_b549 E hc _ _ _ | with_reducible exact a_b517 E hc _ _ | with_reducible exact a_b479 E hc _ _ | with_reducible exact a_b456 E hc _ | with_reducible exact a_b431 E hc _ | with_reducible exact a_b395 E hc _ _ _ _ | with_reducible exact a_b438 E hc _ _ _ (by omega) | with_reducible exact a_b375 E hc _ _ _ _ _ _ (by omega)) | (with_reducible refine AO_l (by omega) (fun r _ _ => ?_)) | (with_reducible refine AO_i (fun _ => ?_) (fun _ => ?_)) | (first | with_reducible exact AO_leaf (la_place E hc) | with_reducible exact AO_leaf (la_firing E hc) | with_reducible exact AO_leaf (la_tokens E hc) | with_reducible exact AO_leaf (la_can E hc) | with_reducible exact AO_leaf (la_fire E hc) | with_reducible exact AO_leaf (la_graph E hc) | with_reducible exact AO_leaf (la_marking E hc) | with_reducible exact AO_leaf (la_most E hc) | with_reducible exact AO_leaf (la_level E hc) | with_reducible exact AO_leaf (la_way E hc) | with_reducible exact AO_leaf (la_step E hc) | with_reducible exact AO_leaf (la_rows E hc) | with_reducible exact AO_leaf (la_row E hc) | with_reducible exact AO_leaf (la_mostByRows E hc) | with_reducible exact AO_leaf (la_rounds E hc) | with_reducible exact AO_leaf (la_round E hc) | with_reducible exact AO_leaf (la_siphons E hc) | with_reducible exact AO_leaf (la_siphon E hc) | with_reducible exact AO_leaf (la_trap E hc) | with_reducible exact AO_leaf (la_log E hc) | with_reducible exact AO_leaf (la_blank E hc) | with_reducible exact AO_leaf (la_goes E hc) | with_reducible exact AO_leaf (la_cost E hc) | with_reducible exact AO_leaf (la_arc E (by first | exact sx_in _ | decide) (by first | exact sx_in _ | decide) (by first | exact sx_in _ | decide) (by first | exact sx_in _ | decide) hc) | with_reducible exact AO_z (la_keeps E hc) | with_reducible exact AO_z (la_isPromising E hc)) | (with_reducible refine AO_g (by omega) ?_))
set_option maxHeartbeats 4000000 in
theorem a_b90 (E : EA cl A) (hc : cl + 1 ≤ 900000) (l1 : Int) (l2 : Int) (l3 : Int) (l4 : Int) (s0 : Int) (h2 : l2 = 0 ∨ l2 = 1) : AO cl A (F_L_act_b90 l1 l2 l3 l4 s0 A 0) := by
  unfold F_L_act_b90
  repeat (first | (first | with_reducible exact a_b727 E hc  | with_reducible exact a_b722 E hc  | with_reducible exact a_b692 E hc _ | with_reducible exact a_b675 E hc _ | with_reducible exact a_b652 E hc _ | with_reducible exact a_b610 E hc _ _ | with_reducible exact a_b576 E hc _ _ | with_reducible exact a_b549 E hc _ _ _ | with_reducible exact a_b517 E hc _ _ | with_reducible exact a_b479 E hc _ _ | with_reducible exact a_b456 E hc _ | with_reducible exact a_b431 E hc _ | with_reducible exact a_b395 E hc _ _ _ _ | with_reducible exact a_b438 E hc _ _ _ (by omega) | with_reducible exact a_b375 E hc _ _ _ _ _ _ (by omega) | with_reducible exact a_b308 E hc _ _ _ _ _ (by omega)) | (with_reducible refine AO_l (by omega) (fun r _ _ => ?_)) | (with_reducible refine AO_i (fun _ => ?_) (fun _ => ?_)) | (first | with_reducible exact AO_leaf (la_place E hc) | with_reducible exact AO_leaf (la_firing E hc) | with_reducible exact AO_leaf (la_tokens E hc) | with_reducible exact AO_leaf (la_can E hc) | with_reducible exact AO_leaf (la_fire E hc) | with_reducible exact AO_leaf (la_graph E hc) | with_reducible exact AO_leaf (la_marking E hc) | with_reducible exact AO_leaf (la_most E hc) | with_reducible exact AO_leaf (la_level E hc) | with_reducible exact AO_leaf (la_way E hc) | with_reducible exact AO_leaf (la_step E hc) | with_reducible exact AO_leaf (la_rows E hc) | with_reducible exact AO_leaf (la_row E hc) | with_reducible exact AO_leaf (la_mostByRows E hc) | with_reducible exact AO_leaf (la_rounds E hc) | with_reducible exact AO_leaf (la_round E hc) | with_reducible exact AO_leaf (la_siphons E hc) | with_reducible exact AO_leaf (la_siphon E hc) | with_reducible exact AO_leaf (la_trap E hc) | with_reducible exact AO_leaf (la_log E hc) | with_reducible exact AO_leaf (la_blank E hc) | with_reducible exact AO_leaf (la_goes E hc) | with_reducible exact AO_leaf (la_cost E hc) | with_reducible exact AO_leaf (la_arc E (by first | exact sx_in _ | decide) (by first | exact sx_in _ | decide) (by first | exact sx_in _ | decide) (by first | exact sx_in _ | decide) hc) | with_reducible exact AO_z (la_keeps E hc) | with_reducible exact AO_z (la_isPromising E hc)) | (with_reducible refine AO_g (by omega) ?_))
set_option maxHeartbeats 4000000 in
theorem a_b69 (E : EA cl A) (hc : cl + 1 ≤ 900000) (l1 : Int) (l2 : Int) (l3 : Int) (s0 : Int) (h2 : l2 = 0 ∨ l2 = 1) : AO cl A (F_L_act_b69 l1 l2 l3 s0 A 0) := by
  unfold F_L_act_b69
  repeat (first | (first | with_reducible exact a_b727 E hc  | with_reducible exact a_b722 E hc  | with_reducible exact a_b692 E hc _ | with_reducible exact a_b675 E hc _ | with_reducible exact a_b652 E hc _ | with_reducible exact a_b610 E hc _ _ | with_reducible exact a_b576 E hc _ _ | with_reducible exact a_b549 E hc _ _ _ | with_reducible exact a_b517 E hc _ _ | with_reducible exact a_b479 E hc _ _ | with_reducible exact a_b456 E hc _ | with_reducible exact a_b431 E hc _ | with_reducible exact a_b395 E hc _ _ _ _ | with_reducible exact a_b438 E hc _ _ _ (by omega) | with_reducible exact a_b375 E hc _ _ _ _ _ _ (by omega) | with_reducible exact a_b308 E hc _ _ _ _ _ (by omega) | with_reducible exact a_b90 E hc _ _ _ _ _ (by omega)) | (with_reducible refine AO_l (by omega) (fun r _ _ => ?_)) | (with_reducible refine AO_i (fun _ => ?_) (fun _ => ?_)) | (first | with_reducible exact AO_leaf (la_place E hc) | with_reducible exact AO_leaf (la_firing E hc) | with_reducible exact AO_leaf (la_tokens E hc) | with_reducible exact AO_leaf (la_can E hc) | with_reducible exact AO_leaf (la_fire E hc) | with_reducible exact AO_leaf (la_graph E hc) | with_reducible exact AO_leaf (la_marking E hc) | with_reducible exact AO_leaf (la_most E hc) | with_reducible exact AO_leaf (la_level E hc) | with_reducible exact AO_leaf (la_way E hc) | with_reducible exact AO_leaf (la_step E hc) | with_reducible exact AO_leaf (la_rows E hc) | with_reducible exact AO_leaf (la_row E hc) | with_reducible exact AO_leaf (la_mostByRows E hc) | with_reducible exact AO_leaf (la_rounds E hc) | with_reducible exact AO_leaf (la_round E hc) | with_reducible exact AO_leaf (la_siphons E hc) | with_reducible exact AO_leaf (la_siphon E hc) | with_reducible exact AO_leaf (la_trap E hc) | with_reducible exact AO_leaf (la_log E hc) | with_reducible exact AO_leaf (la_blank E hc) | with_reducible exact AO_leaf (la_goes E hc) | with_reducible exact AO_leaf (la_cost E hc) | with_reducible exact AO_leaf (la_arc E (by first | exact sx_in _ | decide) (by first | exact sx_in _ | decide) (by first | exact sx_in _ | decide) (by first | exact sx_in _ | decide) hc) | with_reducible exact AO_z (la_keeps E hc) | with_reducible exact AO_z (la_isPromising E hc)) | (with_reducible refine AO_g (by omega) ?_))
set_option maxHeartbeats 4000000 in
theorem a_b42 (E : EA cl A) (hc : cl + 1 ≤ 900000) (l1 : Int) (l2 : Int) (s0 : Int) (h2 : l2 = 0 ∨ l2 = 1) : AO cl A (F_L_act_b42 l1 l2 s0 A 0) := by
  unfold F_L_act_b42
  repeat (first | (first | with_reducible exact a_b727 E hc  | with_reducible exact a_b722 E hc  | with_reducible exact a_b692 E hc _ | with_reducible exact a_b675 E hc _ | with_reducible exact a_b652 E hc _ | with_reducible exact a_b610 E hc _ _ | with_reducible exact a_b576 E hc _ _ | with_reducible exact a_b549 E hc _ _ _ | with_reducible exact a_b517 E hc _ _ | with_reducible exact a_b479 E hc _ _ | with_reducible exact a_b456 E hc _ | with_reducible exact a_b431 E hc _ | with_reducible exact a_b395 E hc _ _ _ _ | with_reducible exact a_b438 E hc _ _ _ (by omega) | with_reducible exact a_b375 E hc _ _ _ _ _ _ (by omega) | with_reducible exact a_b308 E hc _ _ _ _ _ (by omega) | with_reducible exact a_b90 E hc _ _ _ _ _ (by omega) | with_reducible exact a_b69 E hc _ _ _ _ (by omega)) | (with_reducible refine AO_l (by omega) (fun r _ _ => ?_)) | (with_reducible refine AO_i (fun _ => ?_) (fun _ => ?_)) | (first | with_reducible exact AO_leaf (la_place E hc) | with_reducible exact AO_leaf (la_firing E hc) | with_reducible exact AO_leaf (la_tokens E hc) | with_reducible exact AO_leaf (la_can E hc) | with_reducible exact AO_leaf (la_fire E hc) | with_reducible exact AO_leaf (la_graph E hc) | with_reducible exact AO_leaf (la_marking E hc) | with_reducible exact AO_leaf (la_most E hc) | with_reducible exact AO_leaf (la_level E hc) | with_reducible exact AO_leaf (la_way E hc) | with_reducible exact AO_leaf (la_step E hc) | with_reducible exact AO_leaf (la_rows E hc) | with_reducible exact AO_leaf (la_row E hc) | with_reducible exact AO_leaf (la_mostByRows E hc) | with_reducible exact AO_leaf (la_rounds E hc) | with_reducible exact AO_leaf (la_round E hc) | with_reducible exact AO_leaf (la_siphons E hc) | with_reducible exact AO_leaf (la_siphon E hc) | with_reducible exact AO_leaf (la_trap E hc) | with_reducible exact AO_leaf (la_log E hc) | with_reducible exact AO_leaf (la_blank E hc) | with_reducible exact AO_leaf (la_goes E hc) | with_reducible exact AO_leaf (la_cost E hc) | with_reducible exact AO_leaf (la_arc E (by first | exact sx_in _ | decide) (by first | exact sx_in _ | decide) (by first | exact sx_in _ | decide) (by first | exact sx_in _ | decide) hc) | with_reducible exact AO_z (la_keeps E hc) | with_reducible exact AO_z (la_isPromising E hc)) | (with_reducible refine AO_g (by omega) ?_))
set_option maxHeartbeats 4000000 in
theorem a_b17 (E : EA cl A) (hc : cl + 1 ≤ 900000) (l1 : Int) (s0 : Int) (h0 : s0 = 0 ∨ s0 = 1) : AO cl A (F_L_act_b17 l1 s0 A 0) := by
  unfold F_L_act_b17
  repeat (first | (first | with_reducible exact a_b727 E hc  | with_reducible exact a_b722 E hc  | with_reducible exact a_b692 E hc _ | with_reducible exact a_b675 E hc _ | with_reducible exact a_b652 E hc _ | with_reducible exact a_b610 E hc _ _ | with_reducible exact a_b576 E hc _ _ | with_reducible exact a_b549 E hc _ _ _ | with_reducible exact a_b517 E hc _ _ | with_reducible exact a_b479 E hc _ _ | with_reducible exact a_b456 E hc _ | with_reducible exact a_b431 E hc _ | with_reducible exact a_b395 E hc _ _ _ _ | with_reducible exact a_b438 E hc _ _ _ (by omega) | with_reducible exact a_b375 E hc _ _ _ _ _ _ (by omega) | with_reducible exact a_b308 E hc _ _ _ _ _ (by omega) | with_reducible exact a_b90 E hc _ _ _ _ _ (by omega) | with_reducible exact a_b69 E hc _ _ _ _ (by omega) | with_reducible exact a_b42 E hc _ _ _ (by omega)) | (with_reducible refine AO_l (by omega) (fun r _ _ => ?_)) | (with_reducible refine AO_i (fun _ => ?_) (fun _ => ?_)) | (first | with_reducible exact AO_leaf (la_place E hc) | with_reducible exact AO_leaf (la_firing E hc) | with_reducible exact AO_leaf (la_tokens E hc) | with_reducible exact AO_leaf (la_can E hc) | with_reducible exact AO_leaf (la_fire E hc) | with_reducible exact AO_leaf (la_graph E hc) | with_reducible exact AO_leaf (la_marking E hc) | with_reducible exact AO_leaf (la_most E hc) | with_reducible exact AO_leaf (la_level E hc) | with_reducible exact AO_leaf (la_way E hc) | with_reducible exact AO_leaf (la_step E hc) | with_reducible exact AO_leaf (la_rows E hc) | with_reducible exact AO_leaf (la_row E hc) | with_reducible exact AO_leaf (la_mostByRows E hc) | with_reducible exact AO_leaf (la_rounds E hc) | with_reducible exact AO_leaf (la_round E hc) | with_reducible exact AO_leaf (la_siphons E hc) | with_reducible exact AO_leaf (la_siphon E hc) | with_reducible exact AO_leaf (la_trap E hc) | with_reducible exact AO_leaf (la_log E hc) | with_reducible exact AO_leaf (la_blank E hc) | with_reducible exact AO_leaf (la_goes E hc) | with_reducible exact AO_leaf (la_cost E hc) | with_reducible exact AO_leaf (la_arc E (by first | exact sx_in _ | decide) (by first | exact sx_in _ | decide) (by first | exact sx_in _ | decide) (by first | exact sx_in _ | decide) hc) | with_reducible exact AO_z (la_keeps E hc) | with_reducible exact AO_z (la_isPromising E hc)) | (with_reducible refine AO_g (by omega) ?_))
theorem act_ok (E : EA cl A) (hc : cl + 1 ≤ 900000) (v : Int) : AO cl A (F_L_act v A 0) := by
  unfold F_L_act
  repeat (first | (first | with_reducible exact a_b727 E hc  | with_reducible exact a_b722 E hc  | with_reducible exact a_b692 E hc _ | with_reducible exact a_b675 E hc _ | with_reducible exact a_b652 E hc _ | with_reducible exact a_b610 E hc _ _ | with_reducible exact a_b576 E hc _ _ | with_reducible exact a_b549 E hc _ _ _ | with_reducible exact a_b517 E hc _ _ | with_reducible exact a_b479 E hc _ _ | with_reducible exact a_b456 E hc _ | with_reducible exact a_b431 E hc _ | with_reducible exact a_b395 E hc _ _ _ _ | with_reducible exact a_b438 E hc _ _ _ (by omega) | with_reducible exact a_b375 E hc _ _ _ _ _ _ (by omega) | with_reducible exact a_b308 E hc _ _ _ _ _ (by omega) | with_reducible exact a_b90 E hc _ _ _ _ _ (by omega) | with_reducible exact a_b69 E hc _ _ _ _ (by omega) | with_reducible exact a_b42 E hc _ _ _ (by omega) | with_reducible exact a_b17 E hc _ _ (by omega)) | (with_reducible refine AO_l (by omega) (fun r _ _ => ?_)) | (with_reducible refine AO_i (fun _ => ?_) (fun _ => ?_)) | (with_reducible refine AO_g (by omega) ?_))
end AC
