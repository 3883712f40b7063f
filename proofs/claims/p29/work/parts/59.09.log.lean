/-! the call log -/
theorem op_log {F x th L : Int} {en lg : Nat → Int} (hF : 0 ≤ F ∧ F ≤ 8) (hL : 0 ≤ L ∧ L ≤ 10) (hx : inR x) (he : ∀ j : Nat, (j : Int) < L → en j = lg j ∧ 0 ≤ en j ∧ en j < F) :
    ∃ rx rm, F_X5_log x F L en = some rx ∧ F_X6_log x F th L lg = some rm ∧ rx.2.2.1 = rm.2.2.1 ∧ (0 ≤ rx.2.2.1 ∧ rx.2.2.1 ≤ 10) ∧ (∀ j : Nat, (j : Int) < rx.2.2.1 → rx.2.2.2 j = rm.2.2.2 j ∧ 0 ≤ rx.2.2.2 j ∧ rx.2.2.2 j < F) ∧ ((rx.1 = 0 ∧ rm.2.1 = 0 ∧ rx.2.1 = rm.1 ∧ inR rx.2.1) ∨ (rx.1 = 3 ∧ rm.2.1 = 1) ∨ (rx.1 = 2 ∧ rm.2.1 = 2)) := by
  obtain ⟨rp, p1, p2⟩ := isFiring_ok hx hF
  by_cases c : 0 ≤ x ∧ x < F
  · have hrp : rp = 1 := by
      rcases p2 with q | q
      · exact q.1
      · exact absurd c q.2
    by_cases d : L < 10
    · refine ⟨(0, L + 1, L + 1, uI en L.toNat x), (L + 1, 0, L + 1, uI lg L.toNat x), ?_, ?_, rfl, by dsimp only; omega, fun j hj => ?_, Or.inl ⟨rfl, rfl, rfl, by dsimp only; omega⟩⟩
      · unfold F_X5_log F_X2_append F_X2_append_b29
        exact Ob_i (needFiring_ok hx hF) (if_i (if_pos c) (G_i (by omega) (if_i d (Ob_i (G_i (by omega) (el_i (by omega) (G_i (by omega) rfl))) rfl))))
      · unfold F_X6_log F_X6_log_b29
        exact Ob_i p1 (G_i (by omega) (el_i (by omega) (G_i (by omega) (el_i (by omega) (Ob_i goesWell_0 (G_i (by omega) (el_i (by omega) (G_i (by omega) rfl))))))))
      · dsimp only at hj ⊢
        by_cases e : j = L.toNat
        · rw [e, uI_same, uI_same]; exact ⟨rfl, c.1, c.2⟩
        · rw [uI_ne _ _ e, uI_ne _ _ e]; exact he j (by omega)
    · refine ⟨(2, 0, L, en), (0, 2, L, lg), ?_, ?_, rfl, hL, he, Or.inr (Or.inr ⟨rfl, rfl⟩)⟩
      · unfold F_X5_log
        exact Ob_i (needFiring_ok hx hF) (if_i (if_pos c) (G_i (by omega) (el_i d rfl)))
      · unfold F_X6_log F_X6_log_b29
        exact Ob_i p1 (G_i (by omega) (el_i (by omega) (G_i (by omega) (if_i (by omega) (Ob_i (goesWell_n (by omega) (by omega)) (G_i (by omega) (if_i rfl rfl)))))))
  · have hrp : rp = 0 := by
      rcases p2 with q | q
      · exact absurd q.2 c
      · exact q.1
    refine ⟨(3, 0, L, en), (0, 1, L, lg), ?_, ?_, rfl, hL, he, Or.inr (Or.inl ⟨rfl, rfl⟩)⟩
    · unfold F_X5_log
      refine Ob_i (needFiring_ok hx hF) ?_
      rw [if_neg c]
      exact el_i (by omega) rfl
    · unfold F_X6_log F_X6_log_b29
      exact Ob_i p1 (G_i (by omega) (if_i hrp (Ob_i (goesWell_n (by omega) (by omega)) (G_i (by omega) (if_i rfl rfl)))))
