/-! the call fire -/
theorem fire_loop {P F f th fd : Int} {w tok mk : Nat → Int} (hw : wOk w) (hP : 0 ≤ P ∧ P ≤ 6) (hf : 0 ≤ f ∧ f < 8) (ht : tOk P (tk tok)) : ∃ r, F_X6_fire_b43 P F w NN f 0 th fd tok mk = some r ∧ (r.1 = fd + 1 ∧ r.2.1 = th ∧ r.2.2.1 = fd + 1 ∧ r.2.2.2.2 = mk ∧ eqP P (tk r.2.2.2.1) (aftM w (tk tok) f)) := by
  have key : ∀ (fu : Nat) (k : Int) (a : Nat → Int), 0 ≤ k → k ≤ P → P - k < fu → (∀ p : Int, 0 ≤ p → p < k → a p.toNat = aft w (tk tok) f p) → (∀ p : Int, k ≤ p → p < P → a p.toNat = tok p.toNat) → ∃ r, F_X6_fire_b43 P F w fu f k th fd a mk = some r ∧ (r.1 = fd + 1 ∧ r.2.1 = th ∧ r.2.2.1 = fd + 1 ∧ r.2.2.2.2 = mk ∧ eqP P (tk r.2.2.2.1) (aftM w (tk tok) f)) := by
    intro fu
    induction fu with
    | zero => intro k a h1 h2 h3; exact absurd h3 (by omega)
    | succ fu ih =>
      intro k a h1 h2 h3 h4 h5
      show ∃ r, F_X6_fire_b43_body P F w (F_X6_fire_b43 P F w fu) f k th fd a mk = some r ∧ _
      unfold F_X6_fire_b43_body
      refine G_e (by omega) ?_
      by_cases c : P ≤ k
      · exact if_e c (Bd_e (so_e ⟨rfl, rfl, rfl, rfl, fun p p1 p2 => h4 p p1 (by omega)⟩))
      · refine el_e c (G_e (by omega) (Bd_e ?_))
        rw [h5 k (by omega) (by omega)]
        refine Ob_e (after_ok (t := tk tok) hw rfl hf ⟨h1, by omega⟩) (G_e (by omega) (Bd_e (Bd_e (ih (k + 1) _ (by omega) (by omega) (by omega) (fun p p1 p2 => ?_) (fun p p1 p2 => ?_)))))
        · by_cases e : p = k
          · rw [e, uI_same]
          · rw [uI_ne _ _ (by omega)]; exact h4 p p1 (by omega)
        · rw [uI_ne _ _ (by omega)]; exact h5 p (by omega) p2
  exact key NN 0 tok (by omega) hP.1 (NN_gt (by omega)) (fun p p1 p2 => absurd p2 (by omega)) (fun p p1 p2 => rfl)
