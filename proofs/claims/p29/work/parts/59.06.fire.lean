/-! the call fire -/
theorem fire_loop {P F f th fd : Int} {w tok mk : Nat → Int} (hw : wOk w) (hP : 0 ≤ P ∧ P ≤ 6) (hf : 0 ≤ f ∧ f < 8) (ht : tOk P (tk tok)) : ∃ r, F_X6_fire_b43 P F w NN f 0 th fd tok mk = some r ∧ (r.1 = fd + 1 ∧ r.2.1 = th ∧ r.2.2.1 = fd + 1 ∧ r.2.2.2.2 = mk ∧ eqP P (tk r.2.2.2.1) (aftM w (tk tok) f)) := by
  have key : ∀ (fu : Nat) (k : Int) (a : Nat → Int), 0 ≤ k → k ≤ P → P - k < fu → (∀ p : Int, 0 ≤ p → p < k → a p.toNat = aft w (tk tok) f p) → (∀ p : Int, k ≤ p → p < P → a p.toNat = tok p.toNat) → ∃ r, F_X6_fire_b43 P F w fu f k th fd a mk = some r ∧ (r.1 = fd + 1 ∧ r.2.1 = th ∧ r.2.2.1 = fd + 1 ∧ r.2.2.2.2 = mk ∧ eqP P (tk r.2.2.2.1) (aftM w (tk tok) f)) := by
    intro fu
    induction fu with
    | zero => intro k a h1 h2 h3; exact absurd h3 (by omega)
    | succ fu ih =>
      intro k a h1 h2 h3 h4 h5
      show ∃ r, F_X6_fire_b43_body P F w (F_X6_fire_b43 P F w fu) f k th fd a mk = some r ∧ _
      unfold F_X6_fire_b43_body
      refine G_e (by omega) ?_
      by_cases c : P ≤ k
      · exact if_e c (Bd_e (so_e ⟨rfl, rfl, rfl, rfl, fun p p1 p2 => h4 p p1 (by omega)⟩))
      · refine el_e c (G_e (by omega) (Bd_e ?_))
        rw [h5 k (by omega) (by omega)]
        refine Ob_e (after_ok (t := tk tok) hw rfl hf ⟨h1, by omega⟩) (G_e (by omega) (Bd_e (Bd_e (ih (k + 1) _ (by omega) (by omega) (by omega) (fun p p1 p2 => ?_) (fun p p1 p2 => ?_)))))
        · by_cases e : p = k
          · rw [e, uI_same]
          · rw [uI_ne _ _ (by omega)]; exact h4 p p1 (by omega)
        · rw [uI_ne _ _ (by omega)]; exact h5 p (by omega) p2
  exact key NN 0 tok (by omega) hP.1 (NN_gt (by omega)) (fun p p1 p2 => absurd p2 (by omega)) (fun p p1 p2 => rfl)
theorem op_fire {P F x th k st : Int} {tok w : Nat → Int} {need bo em tak gi : Nat → Int64} {mk : Nat → Int} (hp : packed F w need bo em tak gi) (hw : wOk w) (ho : wOut P w) (hP : 0 ≤ P ∧ P ≤ 6) (hF : 0 ≤ F ∧ F ≤ 8) (ht : tOk P (tk tok)) (hk : 0 ≤ k ∧ k < 1000000) (hst : 0 ≤ st ∧ st < 1000000) (hx : inR x) :
    ∃ rx rm, F_X5_fire x F need bo em tak gi (pk (cut P (tk tok))) k st = some rx ∧ F_X6_fire x P F w th k tok mk = some rm ∧ tOk P (tk rm.2.2.2.1) ∧ rx.2.2.1 = pk (cut P (tk rm.2.2.2.1)) ∧ rx.2.2.2.1 = rm.2.2.1 ∧ ((rx.2.2.2.1 = k + 1 ∧ rx.2.2.2.2 = st + 1) ∨ (rx.2.2.2.1 = k ∧ rx.2.2.2.2 = st ∧ rm.2.2.2.1 = tok)) ∧ ((rx.1 = 0 ∧ rm.2.1 = 0 ∧ rx.2.1 = rm.1 ∧ inR rx.2.1) ∨ (rx.1 = 3 ∧ rm.2.1 = 1) ∨ (rx.1 = 2 ∧ rm.2.1 = 2)) := by
  obtain ⟨rp, p1, p2⟩ := isFiring_ok hx hF
  obtain ⟨m0, l1, l2, -⟩ := layNow_ok (tok := tok) (marks := mk) hP
  by_cases c : 0 ≤ x ∧ x < F
  · have hrp : rp = 1 := by
      rcases p2 with q | q
      · exact q.1
      · exact absurd c q.2
    have hx8 : 0 ≤ x ∧ x < 8 := by omega
    have hrow : tOk P (row m0 0) := fun p p1 p2 => by rw [l2 p p1 p2]; exact ht p p1 p2
    obtain ⟨ra, g1, g2⟩ := allows_ok hp hw ho hP hF.2 c (cut_b ht) cut_0
    obtain ⟨rb, k1, k2⟩ := canIn_ok (f := x) hP hw (by omega : (0 : Int) ≤ 0 ∧ (0 : Int) ≤ 300) hx8 hrow
    have hiff : can P w (row m0 0) x ↔ can P w (tk tok) x := by
      constructor
      · intro h p q1 q2
        have := h p q1 q2
        unfold okp aft at this ⊢
        rw [l2 p q1 q2] at this; exact this
      · intro h p q1 q2
        have := h p q1 q2
        unfold okp aft at this ⊢
        rw [l2 p q1 q2]; exact this
    have ga := isB_iff g2 cut_can
    have gb := isB_iff k2 hiff
    by_cases hc : can P w (tk tok) x
    · have za : ra = 1 := by
        rcases ga with q | q
        · exact q.1
        · exact absurd hc q.2
      have zb : rb = 1 := by
        rcases gb with q | q
        · exact q.1
        · exact absurd hc q.2
      subst za zb
      have hcc := cut_can.mpr hc
      have cb := cut_b ht
      have hd1 : ∀ p : Int, 0 ≤ p → p < 6 → wt w 0 x p ≤ cut P (tk tok) p := fun p p1 p2 => by
        by_cases q : p < P
        · exact (hcc p p1 q).1
        · rw [ho 0 x p (by omega) (by omega) hx8.1 hx8.2 (by omega) p2]
          exact (cb p p1 p2).1
      obtain ⟨rm, m1, m2, m3, m4, m5, m6⟩ := fire_loop (F := F) (th := 0) (fd := k) (mk := m0) hw hP hx8 ht
      refine ⟨(0, k + 1, pk (aftM w (cut P (tk tok)) x), k + 1, st + 1), rm, ?_, ?_, fun p p1 p2 => ?_, ?_, m4.symm, Or.inl ⟨rfl, rfl⟩, Or.inl ⟨rfl, m3, m2.symm, by dsimp only; omega⟩⟩
      · unfold F_X5_fire F_X3_moveBy
        exact Ob_i (needFiring_ok hx hF) (if_i (if_pos c) (Ob_i g1 (G_i (by omega) (el_i (by omega) (Ob_i (Ob_i (behind_ok hp hw hF.2 c (bOk_le cb (by omega)) hd1 (bOk_le cb (by omega))) rfl) rfl)))))
      · unfold F_X6_fire F_X6_fire_b33
        exact Ob_i l1 (Ob_i p1 (G_i (by omega) (el_i (by omega) (Ob_i k1 (G_i (by omega) (el_i (by omega) (Ob_i goesWell_0 (G_i (by omega) (el_i (by omega) m1)))))))))
      · rw [m6 p p1 p2]
        have q := hc p p1 p2
        have w1 := hw.1 1 x p (by omega) (by omega) hx8.1 hx8.2 p1 (by omega)
        refine ⟨?_, q.2.2.2⟩
        have := q.1
        unfold aftM aft
        split <;> omega
      · exact aft_cut ho hP.1 hx8 m6
    · have za : ra = 0 := by
        rcases ga with q | q
        · exact absurd q.2 hc
        · exact q.1
      have zb : rb = 0 := by
        rcases gb with q | q
        · exact absurd q.2 hc
        · exact q.1
      subst za zb
      refine ⟨(2, 0, pk (cut P (tk tok)), k, st), (0, 2, k, tok, m0), ?_, ?_, ht, rfl, rfl, Or.inr ⟨rfl, rfl, rfl⟩, Or.inr (Or.inr ⟨rfl, rfl⟩)⟩
      · unfold F_X5_fire
        exact Ob_i (needFiring_ok hx hF) (if_i (if_pos c) (Ob_i g1 (G_i (by omega) (if_i rfl rfl))))
      · unfold F_X6_fire F_X6_fire_b33
        exact Ob_i l1 (Ob_i p1 (G_i (by omega) (el_i (by omega) (Ob_i k1 (G_i (by omega) (if_i rfl (Ob_i (goesWell_n (by omega) (by omega)) (G_i (by omega) (if_i rfl rfl)))))))))
  · have hrp : rp = 0 := by
      rcases p2 with q | q
      · exact absurd q.2 c
      · exact q.1
    refine ⟨(3, 0, pk (cut P (tk tok)), k, st), (0, 1, k, tok, m0), ?_, ?_, ht, rfl, rfl, Or.inr ⟨rfl, rfl, rfl⟩, Or.inr (Or.inl ⟨rfl, rfl⟩)⟩
    · unfold F_X5_fire
      refine Ob_i (needFiring_ok hx hF) ?_
      rw [if_neg c]
      exact el_i (by omega) rfl
    · unfold F_X6_fire F_X6_fire_b33
      exact Ob_i l1 (Ob_i p1 (G_i (by omega) (if_i hrp (Ob_i (goesWell_n (by omega) (by omega)) (G_i (by omega) (if_i rfl rfl))))))
