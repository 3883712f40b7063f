/-! the reference: rows of markings -/
def eqP (P : Int) (t u : Int → Int) : Prop := ∀ p : Int, 0 ≤ p → p < P → t p = u p
def tk (tok : Nat → Int) : Int → Int := fun p => tok p.toNat
theorem layNow_ok {P : Int} {tok marks : Nat → Int} (hP : 0 ≤ P ∧ P ≤ 6) : ∃ r, F_X6_layNow P tok marks = some r ∧ eqP P (row r 0) (tk tok) ∧ ∀ j : Nat, P ≤ j → r j = marks j := by
  have key : ∀ (n : Nat) (p : Int) (mk : Nat → Int), 0 ≤ p → p ≤ P → P - p < n → eqP p (row mk 0) (tk tok) → (∀ j : Nat, P ≤ j → mk j = marks j) → ∃ r, F_X6_layNow_b2 P tok n p mk = some r ∧ eqP P (row r 0) (tk tok) ∧ ∀ j : Nat, P ≤ j → r j = marks j := by
    intro n
    induction n with
    | zero => intro p mk h1 h2 h3; exact absurd h3 (by omega)
    | succ n ih =>
      intro p mk h1 h2 h3 h4 h5
      show ∃ r, F_X6_layNow_b2_body P tok (F_X6_layNow_b2 P tok n) p mk = some r ∧ _
      unfold F_X6_layNow_b2_body
      refine G_e (by omega) ?_
      by_cases hp : P ≤ p
      · refine if_e hp (so_e ⟨?_, h5⟩)
        obtain rfl : p = P := by omega
        exact h4
      · refine el_e hp (G_e (by omega) (Bd_e (G_e (by omega) (Bd_e (Bd_e ?_)))))
        refine ih (p + 1) _ (by omega) (by omega) (by omega) (fun q q1 q2 => ?_) (fun j hj => ?_)
        · unfold row
          by_cases hq : q = p
          · subst hq
            rw [show (6 * 0 + q).toNat = q.toNat by omega, uI_same]
            rfl
          · rw [uI_ne _ _ (by omega)]
            exact h4 q q1 (by omega)
        · rw [uI_ne _ _ (by omega)]
          exact h5 j hj
  unfold F_X6_layNow
  exact key NN 0 marks (by omega) hP.1 (NN_gt (by omega)) (fun q q1 q2 => absurd q2 (by omega)) (fun _ _ => rfl)
theorem isAlike_ok {P : Int} {marks : Nat → Int} {k n : Int} (hP : 0 ≤ P ∧ P ≤ 6) (hk : 0 ≤ k ∧ k ≤ 300) (hn : 0 ≤ n ∧ n ≤ 300) (h1 : tOk P (row marks k)) (h2 : tOk P (row marks n)) : ∃ r, F_X6_isAlike k n P marks = some r ∧ isB r (eqP P (row marks k) (row marks n)) := by
  have key : ∀ (fu : Nat) (d p : Int), 0 ≤ p → p ≤ P → P - p < fu → isB d (eqP p (row marks k) (row marks n)) → ∃ r, F_X6_isAlike_b5 P marks fu k n d p = some r ∧ isB r (eqP P (row marks k) (row marks n)) := by
    intro fu
    induction fu with
    | zero => intro d p h1 h2 h3; exact absurd h3 (by omega)
    | succ fu ih =>
      intro d p p1 p2 p3 hd
      show ∃ r, F_X6_isAlike_b5_body P marks (F_X6_isAlike_b5 P marks fu) k n d p = some r ∧ _
      unfold F_X6_isAlike_b5_body
      refine G_e (by omega) ?_
      by_cases hp : P ≤ p
      · refine if_e hp (G_e (isB_01 hd) (so_e (isB_iff hd ?_)))
        obtain rfl : p = P := by omega
        exact Iff.rfl
      · refine el_e hp ?_
        have a1 := h1 p p1 (by omega)
        have a2 := h2 p p1 (by omega)
        have no : ¬ eqP (p + 1) (row marks k) (row marks n) → ∃ r, F_X6_isAlike_b49 P marks (F_X6_isAlike_b5 P marks fu) k n p = some r ∧ isB r (eqP P (row marks k) (row marks n)) := fun h => ih 0 (p + 1) (by omega) (by omega) (by omega) (Or.inr ⟨rfl, h⟩)
        rcases hd with ⟨rfl, hd⟩ | ⟨rfl, hd⟩
        · refine G_e (by omega) (el_e (by omega) (Bd_e (G_e (by omega) (Bd_e (Bd_e (G_e (by omega) (Bd_e ?_)))))))
          have e1 : marks (6 * k + p).toNat = row marks k p := rfl
          have e2 : marks (6 * n + p).toNat = row marks n p := rfl
          rw [e1, e2]
          refine G_e (by omega) ?_
          by_cases c : row marks k p = row marks n p
          · refine if_e c (ih 1 (p + 1) (by omega) (by omega) (by omega) (Or.inl ⟨rfl, fun q q1 q2 => ?_⟩))
            by_cases hq : q = p
            · rw [hq]; exact c
            · exact hd q q1 (by omega)
          · exact el_e c (no (fun z => c (z p p1 (by omega))))
        · exact G_e (by omega) (if_e rfl (no (fun z => hd (fun q q1 q2 => z q q1 (by omega)))))
  exact key NN 1 0 (by omega) hP.1 (NN_gt (by omega)) (Or.inl ⟨rfl, fun q q1 q2 => absurd q2 (by omega)⟩)
theorem findAfter_ok {P : Int} {w marks : Nat → Int} {m f n : Int} (hP : 0 ≤ P ∧ P ≤ 6) (hw : wOk w) (hf : 0 ≤ f ∧ f < 8) (hm : 0 ≤ m ∧ m < n) (hn : n ≤ 300) (hr : ∀ k : Int, 0 ≤ k → k < n → tOk P (row marks k)) (hc : can P w (row marks m) f) :
    ∃ r, F_X6_findAfter m f n P w marks = some r ∧ 0 ≤ r.1 ∧ r.1 ≤ n ∧ eqP P (row r.2 n) (aftM w (row marks m) f) ∧ (∀ j : Nat, (j < 6 * n ∨ 6 * n + P ≤ j) → r.2 j = marks j) ∧ eqP P (row r.2 r.1) (row r.2 n) ∧ ∀ k : Int, 0 ≤ k → k < r.1 → ¬ eqP P (row r.2 k) (row r.2 n) := by
  have ha : ∀ p : Int, 0 ≤ p → p < P → 0 ≤ aft w (row marks m) f p ∧ aft w (row marks m) f p ≤ 99 := fun p p1 p2 => by
    have w0 := hw.1 0 f p (by omega) (by omega) hf.1 hf.2 p1 (by omega)
    have w1 := hw.1 1 f p (by omega) (by omega) hf.1 hf.2 p1 (by omega)
    have c := hc p p1 p2
    refine ⟨?_, c.2.2.2⟩
    have := c.1
    unfold aft
    split <;> omega
  -- the search
  have find : ∀ (fu : Nat) (k : Int) (mk : Nat → Int), (∀ j : Int, 0 ≤ j → j ≤ n → tOk P (row mk j)) → 0 ≤ k → k ≤ n → n - k < fu → (∀ j : Int, 0 ≤ j → j < k → ¬ eqP P (row mk j) (row mk n)) → ∃ r, F_X6_findAfter_b52 P w fu n k mk = some r ∧ r.2 = mk ∧ 0 ≤ r.1 ∧ r.1 ≤ n ∧ eqP P (row mk r.1) (row mk n) ∧ ∀ j : Int, 0 ≤ j → j < r.1 → ¬ eqP P (row mk j) (row mk n) := by
    intro fu
    induction fu with
    | zero => intro k mk h0 h1 h2 h3; exact absurd h3 (by omega)
    | succ fu ih =>
      intro k mk h0 h1 h2 h3 h4
      show ∃ r, F_X6_findAfter_b52_body P w (F_X6_findAfter_b52 P w fu) n k mk = some r ∧ _
      unfold F_X6_findAfter_b52_body
      obtain ⟨r, g1, g2⟩ := isAlike_ok hP (by omega) (by omega) (h0 k h1 h2) (h0 n (by omega) (by omega))
      refine Ob_e g1 (G_e (by rcases g2 with ⟨rfl, -⟩ | ⟨rfl, -⟩ <;> omega) ?_)
      rcases g2 with ⟨rfl, g2⟩ | ⟨rfl, g2⟩
      · exact el_e (by omega) (so_e ⟨rfl, h1, h2, g2, h4⟩)
      · refine if_e rfl (Bd_e (ih (k + 1) mk h0 (by omega) ?_ (by omega) (fun j j1 j2 => ?_)))
        · rcases Int.lt_or_le k n with q | q
          · omega
          · exact absurd (fun p _ _ => by rw [show k = n by omega]) g2
        · by_cases hj : j = k
          · rw [hj]; exact g2
          · exact h4 j j1 (by omega)
  -- the laying
  have lay : ∀ (fu : Nat) (p : Int) (mk : Nat → Int), 0 ≤ p → p ≤ P → P - p < fu → eqP p (row mk n) (aftM w (row marks m) f) → (∀ j : Nat, (j < 6 * n ∨ 6 * n + p ≤ j) → mk j = marks j) →
      ∃ r, F_X6_findAfter_b3 P w fu m f n p mk = some r ∧ 0 ≤ r.1 ∧ r.1 ≤ n ∧ eqP P (row r.2 n) (aftM w (row marks m) f) ∧ (∀ j : Nat, (j < 6 * n ∨ 6 * n + P ≤ j) → r.2 j = marks j) ∧ eqP P (row r.2 r.1) (row r.2 n) ∧ ∀ k : Int, 0 ≤ k → k < r.1 → ¬ eqP P (row r.2 k) (row r.2 n) := by
    intro fu
    induction fu with
    | zero => intro p mk h1 h2 h3; exact absurd h3 (by omega)
    | succ fu ih =>
      intro p mk h1 h2 h3 h4 h5
      show ∃ r, F_X6_findAfter_b3_body P w (F_X6_findAfter_b3 P w fu) m f n p mk = some r ∧ _
      unfold F_X6_findAfter_b3_body
      refine G_e (by omega) ?_
      by_cases hp : P ≤ p
      · refine if_e hp ?_
        obtain rfl : p = P := by omega
        have hrow : ∀ j : Int, 0 ≤ j → j ≤ n → tOk p (row mk j) := fun j j1 j2 q q1 q2 => by
          by_cases hj : j = n
          · rw [hj, h4 q q1 q2]; exact ha q q1 q2
          · have := hr j j1 (by omega) q q1 q2
            unfold row at this ⊢
            rw [h5 _ (Or.inl (by omega))]
            exact this
        obtain ⟨r, g1, g2, g3, g4, g5, g6⟩ := find NN 0 mk hrow (by omega) (by omega) (NN_gt (by omega)) (fun j j1 j2 => absurd j2 (by omega))
        refine ⟨r, g1, g3, g4, ?_⟩
        rw [g2]
        exact ⟨h4, h5, g5, g6⟩
      · refine el_e hp (Bd_e (G_e (by omega) (Bd_e ?_)))
        have hx : row marks m p = mk (6 * m + p).toNat := by
          rw [h5 _ (Or.inl (by omega))]
          rfl
        refine Ob_e (after_ok (t := row marks m) hw hx hf (by omega)) (Bd_e (G_e (by omega) (Bd_e (Bd_e ?_))))
        refine ih (p + 1) _ (by omega) (by omega) (by omega) (fun q q1 q2 => ?_) (fun j hj => ?_)
        · by_cases hq : q = p
          · subst hq
            unfold row aftM
            rw [uI_same]
          · have := h4 q q1 (by omega)
            unfold row at this ⊢
            rw [uI_ne _ _ (by omega)]
            exact this
        · rw [uI_ne _ _ (by omega)]
          exact h5 j (by omega)
  exact lay NN 0 marks (by omega) hP.1 (NN_gt (by omega)) (fun q q1 q2 => absurd q2 (by omega)) (fun _ _ => rfl)
