/-! the call place -/
theorem pk_put {P x : Int} {t u : Int → Int} (ht : bOk 100 (cut P t)) (hP : 0 ≤ P ∧ P < 6) (hx : 0 ≤ x ∧ x ≤ 99) (hu : ∀ p : Int, 0 ≤ p → p < P → u p = t p) (hu2 : u P = x) : pk (cut P t) ||| lShl (lN x.toNat) (8 * P) = pk (cut (P + 1) u) := by
  have b1 : bOk 256 (cut P t) := bOk_le ht (by omega)
  have hd := pkd_lt b1 (by omega)
  have low : ∀ n : Nat, P.toNat ≤ n → n ≤ 6 → sp (pkd (cut P t)) n = sp (pkd (cut P t)) P.toNat := by
    intro n
    induction n with
    | zero => intro h1 h2; rw [show P.toNat = 0 by omega]
    | succ n ih =>
      intro h1 h2
      by_cases e : P.toNat = n + 1
      · rw [e]
      · rw [sp, ih (by omega) (by omega)]
        have : pkd (cut P t) n = 0 := by
          unfold pkd
          rw [show cut P t (n : Int) = 0 from if_neg (by omega)]
          rfl
        rw [this]; omega
  have e1 : ∀ i, i < P.toNat → pkd (cut P t) i = pkd (cut (P + 1) u) i := fun i hi => by
    unfold pkd
    rw [show cut P t (i : Int) = t (i : Int) from if_pos (by omega), show cut (P + 1) u (i : Int) = u (i : Int) from if_pos (by omega), hu _ (by omega) (by omega)]
  have e2 : pkd (cut (P + 1) u) P.toNat = x.toNat := by
    unfold pkd
    rw [show ((P.toNat : Nat) : Int) = P by omega, show cut (P + 1) u P = u P from if_pos (by omega), hu2]
  have high : ∀ n : Nat, P.toNat + 1 ≤ n → n ≤ 6 → sp (pkd (cut (P + 1) u)) n = sp (pkd (cut (P + 1) u)) (P.toNat + 1) := by
    intro n
    induction n with
    | zero => intro h1 h2; omega
    | succ n ih =>
      intro h1 h2
      by_cases e : P.toNat + 1 = n + 1
      · rw [e]
      · rw [sp, ih (by omega) (by omega)]
        have : pkd (cut (P + 1) u) n = 0 := by
          unfold pkd
          rw [show cut (P + 1) u (n : Int) = 0 from if_neg (by omega)]
          rfl
        rw [this]; omega
  unfold pk
  rw [low 6 (by omega) (by omega), high 6 (by omega) (by omega), sp_cong P.toNat e1]
  refine por ⟨hx.1, by omega⟩ ⟨hP.1, hP.2⟩ (fun i hi => ?_) e2
  rw [← e1 i hi]
  exact hd i (by omega)
theorem op_place {P x th sh st : Int} {tok : Nat → Int} (hP : 0 ≤ P ∧ P ≤ 6) (ht : tOk P (tk tok)) (hx : inR x) :
    ∃ rx rm, F_X5_place x P (pk (cut P (tk tok))) sh st = some rx ∧ F_X6_place x th P tok = some rm ∧ ((rx.1 = 0 ∧ rm.2.1 = 0 ∧ rx.2.1 = rm.1 ∧ inR rx.2.1 ∧ P < 6 ∧ rx.2.2.1 = P + 1 ∧ rm.2.2.1 = P + 1 ∧ tOk (P + 1) (tk rm.2.2.2) ∧ rx.2.2.2.1 = pk (cut (P + 1) (tk rm.2.2.2)) ∧ rx.2.2.2.2 = (sh + 1, st + 1)) ∨ (((rx.1 = 1 ∧ rm.2.1 = 1) ∨ (rx.1 = 2 ∧ rm.2.1 = 2)) ∧ rx.2.2 = (P, pk (cut P (tk tok)), sh, st) ∧ rm.2.2 = (P, tok))) := by
  obtain ⟨rt, t1, t2⟩ := in_ok (x := x) (a := 0) (b := 99) hx (by omega) (by omega)
  by_cases d : 0 ≤ x ∧ x ≤ 99
  · have hrt : rt = 1 := by
      rcases t2 with q | q
      · exact q.1
      · exact absurd d q.2
    by_cases c : P < 6
    · have e : ∀ p : Int, 0 ≤ p → p < P → tk (uI tok P.toNat x) p = tk tok p := fun p p1 p2 => uI_ne _ _ (by omega)
      have e2 : tk (uI tok P.toNat x) P = x := uI_same _ _ _
      refine ⟨(0, P, P + 1, pk (cut P (tk tok)) ||| lShl (lN x.toNat) (8 * P), sh + 1, st + 1), (P + 1 - 1, 0, P + 1, uI tok P.toNat x), ?_, ?_, Or.inl ⟨rfl, rfl, by dsimp only; omega, by dsimp only; omega, c, rfl, rfl, fun p p1 p2 => ?_, pk_put (cut_b ht) ⟨hP.1, c⟩ d e e2, rfl⟩⟩
      · unfold F_X5_place F_X3_addPlace
        exact Ob_i (needTokens_ok hx) (if_i (if_pos d) (G_i (by omega) (if_i c (Ob_i (Ob_i (packed_ok (by omega)) rfl) rfl))))
      · unfold F_X6_place F_X6_place_b31
        exact Ob_i t1 (G_i (by omega) (el_i (by omega) (G_i (by omega) (el_i (by omega) (Ob_i goesWell_0 (G_i (by omega) (el_i (by omega) (G_i (by omega) rfl))))))))
      · dsimp only
        by_cases q : p = P
        · rw [q, e2]; exact d
        · rw [e p p1 (by omega)]; exact ht p p1 (by omega)
    · refine ⟨(2, 0, P, pk (cut P (tk tok)), sh, st), (0, 2, P, tok), ?_, ?_, Or.inr ⟨Or.inr ⟨rfl, rfl⟩, rfl, rfl⟩⟩
      · unfold F_X5_place
        exact Ob_i (needTokens_ok hx) (if_i (if_pos d) (G_i (by omega) (el_i c rfl)))
      · unfold F_X6_place F_X6_place_b31
        exact Ob_i t1 (G_i (by omega) (el_i (by omega) (G_i (by omega) (if_i (by omega) (Ob_i (goesWell_n (by omega) (by omega)) (G_i (by omega) (if_i rfl rfl)))))))
  · have hrt : rt = 0 := by
      rcases t2 with q | q
      · exact absurd q.2 d
      · exact q.1
    refine ⟨(1, 0, P, pk (cut P (tk tok)), sh, st), (0, 1, P, tok), ?_, ?_, Or.inr ⟨Or.inl ⟨rfl, rfl⟩, rfl, rfl⟩⟩
    · unfold F_X5_place
      refine Ob_i (needTokens_ok hx) ?_
      rw [if_neg d]
      exact el_i (by omega) rfl
    · unfold F_X6_place F_X6_place_b31
      exact Ob_i t1 (G_i (by omega) (if_i hrt (Ob_i (goesWell_n (by omega) (by omega)) (G_i (by omega) (if_i rfl rfl)))))
