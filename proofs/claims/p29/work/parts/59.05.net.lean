/-! calls of the net: tokens and can -/
theorem op_tokens {P x th : Int} {tok : Nat → Int} (hP : 0 ≤ P ∧ P ≤ 6) (ht : tOk P (tk tok)) (hx : inR x) :
    ∃ rx rm, F_X5_tokens x P (pk (cut P (tk tok))) = some rx ∧ F_X6_tokens x P tok th = some rm ∧ ((rx.1 = 0 ∧ rm.2 = 0 ∧ rx.2 = rm.1 ∧ inR rx.2) ∨ (rx.1 = 3 ∧ rm.2 = 1)) := by
  obtain ⟨rp, p1, p2⟩ := isPlace_ok hx hP
  by_cases c : 0 ≤ x ∧ x < P
  · have hrp : rp = 1 := by
      rcases p2 with q | q
      · exact q.1
      · exact absurd c q.2
    have hb := ht x c.1 c.2
    refine ⟨(0, tk tok x), (tk tok x, 0), ?_, ?_, Or.inl ⟨rfl, rfl, rfl, by dsimp only; omega⟩⟩
    · unfold F_X5_tokens
      refine Ob_i (needPlace_ok hx hP) (if_i (if_pos c) (Ob_i (tokensIn_ok (bOk_le (cut_b ht) (by omega)) (by omega)) ?_))
      rw [show cut P (tk tok) x = tk tok x from if_pos c.2]
    · unfold F_X6_tokens F_X6_tokens_b14
      exact Ob_i p1 (G_i (by omega) (el_i (by omega) (Ob_i goesWell_0 (G_i (by omega) (el_i (by omega) (G_i (by omega) (Bd_i rfl)))))))
  · have hrp : rp = 0 := by
      rcases p2 with q | q
      · exact absurd q.2 c
      · exact q.1
    refine ⟨(3, 0), (0, 1), ?_, ?_, Or.inr ⟨rfl, rfl⟩⟩
    · unfold F_X5_tokens
      refine Ob_i (needPlace_ok hx hP) ?_
      rw [if_neg c]
      exact el_i (by omega) rfl
    · unfold F_X6_tokens F_X6_tokens_b14
      exact Ob_i p1 (G_i (by omega) (if_i hrp (Ob_i (goesWell_n (by omega) (by omega)) (G_i (by omega) (if_i rfl rfl)))))
theorem op_can {P F x th : Int} {tok w : Nat → Int} {need bo em tak gi : Nat → Int64} {mk : Nat → Int} (hp : packed F w need bo em tak gi) (hw : wOk w) (ho : wOut P w) (hP : 0 ≤ P ∧ P ≤ 6) (hF : 0 ≤ F ∧ F ≤ 8) (ht : tOk P (tk tok)) (hx : inR x) :
    ∃ rx rm, F_X5_can x F (pk (cut P (tk tok))) need bo em tak gi = some rx ∧ F_X6_can x P F tok w th mk = some rm ∧ ((rx.1 = 0 ∧ rm.2.1 = 0 ∧ rx.2 = rm.1 ∧ inR rx.2) ∨ (rx.1 = 3 ∧ rm.2.1 = 1)) := by
  obtain ⟨rp, p1, p2⟩ := isFiring_ok hx hF
  obtain ⟨m0, l1, l2, -⟩ := layNow_ok (tok := tok) (marks := mk) hP
  by_cases c : 0 ≤ x ∧ x < F
  · have hrp : rp = 1 := by
      rcases p2 with q | q
      · exact q.1
      · exact absurd c q.2
    have hrow : tOk P (row m0 0) := fun p p1 p2 => by rw [l2 p p1 p2]; exact ht p p1 p2
    obtain ⟨ra, g1, g2⟩ := allows_ok hp hw ho hP hF.2 c (cut_b ht) cut_0
    obtain ⟨rb, k1, k2⟩ := canIn_ok (f := x) hP hw (by omega : (0 : Int) ≤ 0 ∧ (0 : Int) ≤ 300) (by omega) hrow
    have hiff : can P w (cut P (tk tok)) x ↔ can P w (row m0 0) x := by
      rw [cut_can]
      constructor
      · intro h p q1 q2
        have := h p q1 q2
        unfold okp aft at this ⊢
        rw [l2 p q1 q2]; exact this
      · intro h p q1 q2
        have := h p q1 q2
        unfold okp aft at this ⊢
        rw [l2 p q1 q2] at this; exact this
    have e : ra = rb := by
      rcases isB_iff g2 hiff with ⟨q1, q2⟩ | ⟨q1, q2⟩ <;> rcases k2 with ⟨q3, q4⟩ | ⟨q3, q4⟩
      · omega
      · exact absurd q2 q4
      · exact absurd q4 q2
      · omega
    have h01 := isB_01 g2
    refine ⟨(0, ra), (rb, 0, m0), ?_, ?_, Or.inl ⟨rfl, rfl, e, by dsimp only; omega⟩⟩
    · unfold F_X5_can
      exact Ob_i (needFiring_ok hx hF) (if_i (if_pos c) (Ob_i g1 (G_i h01 rfl)))
    · unfold F_X6_can F_X6_can_b18
      refine Ob_i l1 (Ob_i p1 (G_i (by omega) (el_i (by omega) (Ob_i goesWell_0 (G_i (by omega) (el_i (by omega) (Ob_i k1 (G_i (by omega) ?_))))))))
      unfold F_X6_can_b37
      rcases (show rb = 0 ∨ rb = 1 by omega) with q | q
      · rw [q]; exact if_i rfl (G_i (by omega) rfl)
      · rw [q]; exact el_i (by omega) (G_i (by omega) rfl)
  · have hrp : rp = 0 := by
      rcases p2 with q | q
      · exact absurd q.2 c
      · exact q.1
    refine ⟨(3, 0), (0, 1, m0), ?_, ?_, Or.inr ⟨rfl, rfl⟩⟩
    · unfold F_X5_can
      refine Ob_i (needFiring_ok hx hF) ?_
      rw [if_neg c]
      exact el_i (by omega) rfl
    · unfold F_X6_can F_X6_can_b18
      exact Ob_i l1 (Ob_i p1 (G_i (by omega) (if_i hrp (Ob_i (goesWell_n (by omega) (by omega)) (G_i (by omega) (if_i rfl rfl))))))
