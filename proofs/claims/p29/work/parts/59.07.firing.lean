/-! the call firing -/
theorem op_firing {F th sh st : Int} {w : Nat → Int} {need bo em tak gi : Nat → Int64} (hp : packed F w need bo em tak gi) (hw : wOk w) (hF : 0 ≤ F ∧ F ≤ 8) :
    ∃ rx rm, F_X5_firing w F sh st need bo em tak gi = some rx ∧ F_X6_firing th F = some rm ∧ ((rx.1 = 0 ∧ rm.2.1 = 0 ∧ rx.2.1 = rm.1 ∧ inR rx.2.1 ∧ rx.2.2.1 = F + 1 ∧ rm.2.2 = F + 1 ∧ F < 8 ∧ rx.2.2.2.1 = sh + 1 ∧ rx.2.2.2.2.1 = st + 1 ∧ packed (F + 1) w rx.2.2.2.2.2.1 rx.2.2.2.2.2.2.1 rx.2.2.2.2.2.2.2.1 rx.2.2.2.2.2.2.2.2.1 rx.2.2.2.2.2.2.2.2.2) ∨ (rx.1 = 2 ∧ rm.2.1 = 1 ∧ rx.2.2 = (F, sh, st, need, bo, em, tak, gi) ∧ rm.2.2 = F)) := by
  by_cases c : F < 8
  · obtain ⟨r, g1, ⟨a1, a2, a3, a4, a5⟩, g2⟩ := pack_ok (f := F) (ne := need) (bo := bo) (em := em) (ta := tak) (gi := gi) hw ⟨hF.1, c⟩
    refine ⟨(0, F, F + 1, sh + 1, st + 1, r.1, r.2.1, r.2.2.1, r.2.2.2.1, r.2.2.2.2), (F + 1 - 1, 0, F + 1), ?_, ?_, Or.inl ⟨rfl, rfl, by dsimp only; omega, by dsimp only; omega, rfl, rfl, c, rfl, rfl, fun f f1 f2 => ?_⟩⟩
    · unfold F_X5_firing F_X3_addFiring
      exact G_i (by omega) (if_i c (Ob_i (Ob_i g1 rfl) rfl))
    · unfold F_X6_firing F_X6_firing_b15
      exact G_i (by omega) (el_i (by omega) (Ob_i goesWell_0 (G_i (by omega) (el_i (by omega) rfl))))
    · dsimp only
      by_cases e : f = F
      · rw [e]; exact ⟨a1, a2, a3, a4, a5⟩
      · obtain ⟨b1, b2, b3, b4, b5⟩ := g2 f.toNat (by omega)
        rw [b1, b2, b3, b4, b5]
        exact hp f f1 (by omega)
  · refine ⟨(2, 0, F, sh, st, need, bo, em, tak, gi), (0, 1, F), ?_, ?_, Or.inr ⟨rfl, rfl, rfl, rfl⟩⟩
    · unfold F_X5_firing
      exact G_i (by omega) (el_i c rfl)
    · unfold F_X6_firing F_X6_firing_b15
      exact G_i (by omega) (if_i (by omega) (Ob_i (goesWell_n (by omega) (by omega)) (G_i (by omega) (if_i rfl rfl))))
