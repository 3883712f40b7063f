/-! the calls blank and goes -/
theorem op_blank {L th : Int} (hL : 0 ≤ L ∧ L ≤ 10) : ∃ rx rm, F_X5_blank L = some rx ∧ F_X6_blank th L = some rm ∧ rx.2 = 0 ∧ rm.2.2 = 0 ∧ rx.1 = rm.1 ∧ inR rx.1 :=
  ⟨(L, 0), (L, 0, 0), rfl, rfl, rfl, rfl, rfl, by dsimp only; omega⟩
theorem op_goes {P F L th : Int} {tok w en lg mk : Nat → Int} {need bo em tak gi : Nat → Int64} (hp : packed F w need bo em tak gi) (hw : wOk w) (ho : wOut P w) (hP : 0 ≤ P ∧ P ≤ 6) (hF : 0 ≤ F ∧ F ≤ 8) (ht : tOk P (tk tok)) (hL : 0 ≤ L ∧ L ≤ 10) (he : ∀ j : Nat, (j : Int) < L → en j = lg j ∧ 0 ≤ en j ∧ en j < F) :
    ∃ rx rm, F_X5_goes (pk (cut P (tk tok))) need bo em tak gi L en = some rx ∧ F_X6_goes P L tok w lg th mk = some rm ∧ rx = rm.1 ∧ inR rx := by
  have lay : ∀ (ag11 : Int → Int → (Nat → Int) → Option (Int × (Int) × (Nat → Int))) (t : Int → Int) (i f : Int), 0 ≤ f ∧ f < 8 → 0 ≤ i ∧ i < 10 → lg i.toNat = f → ∀ (fu : Nat) (p : Int) (a : Nat → Int), 0 ≤ p → p ≤ P → P - p < fu → (∀ q : Int, 0 ≤ q → q < p → a q.toNat = aft w t f q) → (∀ q : Int, p ≤ q → q < P → a q.toNat = t q) → ∃ a', eqP P (row a' 0) (aftM w t f) ∧ F_X6_goes_b37 P L tok w lg ag11 fu i p 0 a = ag11 (i + 1) 0 a' := by
    intro ag11 t i f hf hi hl fu
    induction fu with
    | zero => intro p a h1 h2 h3; exact absurd h3 (by omega)
    | succ fu ih =>
      intro p a h1 h2 h3 h4 h5
      show ∃ a', _ ∧ F_X6_goes_b37_body P L tok w lg ag11 (F_X6_goes_b37 P L tok w lg ag11 fu) i p 0 a = _
      unfold F_X6_goes_b37_body
      by_cases c : P ≤ p
      · refine ⟨a, fun q q1 q2 => ?_, G_i (by omega) (if_i c rfl)⟩
        unfold row
        rw [show (6 * 0 + q).toNat = q.toNat by omega]
        exact h4 q q1 (by omega)
      · obtain ⟨a', b1, b2⟩ := ih (p + 1) (uI a p.toNat (aft w t f p)) (by omega) (by omega) (by omega) (fun q q1 q2 => by
          by_cases e : q = p
          · rw [e, uI_same]
          · rw [uI_ne _ _ (by omega)]; exact h4 q q1 (by omega)) (fun q q1 q2 => by
          rw [uI_ne _ _ (by omega)]; exact h5 q (by omega) q2)
        refine ⟨a', b1, G_i (by omega) (el_i c (G_i (by omega) (Bd_i (G_i (by omega) (Bd_i ?_)))))⟩
        rw [hl, h5 p (by omega) (by omega)]
        exact Ob_i (after_ok (t := t) hw rfl hf ⟨h1, by omega⟩) (G_i (by omega) (Bd_i (Bd_i b2)))
  have key : ∀ (fu fm : Nat) (i : Int) (t : Int → Int) (a : Nat → Int), 0 ≤ i → i ≤ L → L - i < fu → L - i < fm → tOk P t → eqP P (row a 0) t → ∃ r, F_X2_reachesTo_b10 (pk (cut P (tk tok))) need bo em tak gi L en fu (pk (cut P t)) i = some r ∧ ((∃ a', F_X6_goes_b11 P L tok w lg fm i 0 a = some (r, 0, a')) ∧ 0 ≤ r ∧ r ≤ 10) := by
    intro fu
    induction fu with
    | zero => intro fm i t a h1 h2 h3; exact absurd h3 (by omega)
    | succ fu ih =>
      intro fm i t a h1 h2 h3 h4 h5 h6
      obtain ⟨fm, rfl⟩ : ∃ j, fm = j + 1 := ⟨fm - 1, by omega⟩
      show ∃ r, F_X2_reachesTo_b10_body (pk (cut P (tk tok))) need bo em tak gi L en (F_X2_reachesTo_b10 (pk (cut P (tk tok))) need bo em tak gi L en fu) (pk (cut P t)) i = some r ∧ ((∃ a', F_X6_goes_b11_body P L tok w lg (F_X6_goes_b11 P L tok w lg fm) i 0 a = some (r, 0, a')) ∧ _)
      unfold F_X2_reachesTo_b10_body F_X6_goes_b11_body
      refine G_e (by omega) ?_
      by_cases c : L ≤ i
      · exact if_e c (so_e ⟨⟨a, G_i (by omega) (if_i c rfl)⟩, by omega⟩)
      · obtain ⟨e1, e2, e3⟩ := he i.toNat (by omega)
        have hrow : tOk P (row a 0) := fun p p1 p2 => by rw [h6 p p1 p2]; exact h5 p p1 p2
        refine el_e c (G_e (by omega) (Bd_e ?_))
        generalize hv : en i.toNat = f at e1 e2 e3 ⊢
        have hf8 : 0 ≤ f ∧ f < 8 := by omega
        obtain ⟨ra, g1, g2⟩ := allows_ok hp hw ho hP hF.2 ⟨e2, e3⟩ (cut_b h5) cut_0
        obtain ⟨rb, k1, k2⟩ := canIn_ok (f := f) hP hw (by omega : (0 : Int) ≤ 0 ∧ (0 : Int) ≤ 300) hf8 hrow
        have hiff : can P w (row a 0) f ↔ can P w t f := by
          constructor
          · intro h p q1 q2
            have := h p q1 q2
            unfold okp aft at this ⊢
            rw [h6 p q1 q2] at this; exact this
          · intro h p q1 q2
            have := h p q1 q2
            unfold okp aft at this ⊢
            rw [h6 p q1 q2]; exact this
        have ga := isB_iff g2 cut_can
        have gb := isB_iff k2 hiff
        refine Ob_e g1 (G_e (by have := isB_01 g2; omega) ?_)
        by_cases hc : can P w t f
        · have za : ra = 1 := by
            rcases ga with q | q
            · exact q.1
            · exact absurd hc q.2
          have zb : rb = 1 := by
            rcases gb with q | q
            · exact q.1
            · exact absurd hc q.2
          have hcc := cut_can.mpr hc
          have cb := cut_b h5
          have hd1 : ∀ p : Int, 0 ≤ p → p < 6 → wt w 0 f p ≤ cut P t p := fun p p1 p2 => by
            by_cases q : p < P
            · exact (hcc p p1 q).1
            · rw [ho 0 f p (by omega) (by omega) hf8.1 hf8.2 (by omega) p2]
              exact (cb p p1 p2).1
          obtain ⟨a', b1, b2⟩ := lay (F_X6_goes_b11 P L tok w lg fm) t i f hf8 (by omega) e1.symm NN 0 a (by omega) hP.1 (NN_gt (by omega)) (fun q q1 q2 => absurd q2 (by omega)) (fun q q1 q2 => by
            have := h6 q q1 q2
            unfold row at this
            rw [show (6 * 0 + q).toNat = q.toNat by omega] at this
            exact this)
          have hu : tOk P (aftM w t f) := fun p p1 p2 => by
            have q := hc p p1 p2
            have w1 := hw.1 1 f p (by omega) (by omega) hf8.1 hf8.2 p1 (by omega)
            refine ⟨?_, q.2.2.2⟩
            have := q.1
            unfold aftM aft
            split <;> omega
          refine el_e (by omega) (G_e (by omega) (Bd_e (Ob_e (behind_ok hp hw hF.2 ⟨by omega, by omega⟩ (bOk_le cb (by omega)) (fun p p1 p2 => ?_) (bOk_le cb (by omega))) (Bd_e ?_))))
          · exact hd1 p p1 p2
          · rw [aft_cut ho hP.1 hf8 (fun _ _ _ => rfl)]
            obtain ⟨r, y1, ⟨⟨a2, y2⟩, y3⟩⟩ := ih fm (i + 1) (aftM w t f) a' (by omega) (by omega) (by omega) (by omega) hu b1
            refine ⟨r, y1, ⟨a2, G_i (by omega) (el_i c (G_i (by omega) (Bd_i ?_)))⟩, y3⟩
            rw [← e1]
            exact Ob_i k1 (G_i (by omega) (el_i (by omega) (b2.trans y2)))
        · have za : ra = 0 := by
            rcases ga with q | q
            · exact absurd q.2 hc
            · exact q.1
          have zb : rb = 0 := by
            rcases gb with q | q
            · exact absurd q.2 hc
            · exact q.1
          refine if_e za (so_e ⟨⟨a, G_i (by omega) (el_i c (G_i (by omega) (Bd_i ?_)))⟩, by omega⟩)
          rw [← e1]
          exact Ob_i k1 (G_i (by omega) (if_i zb rfl))
  obtain ⟨m0, l1, l2, -⟩ := layNow_ok (tok := tok) (marks := mk) hP
  obtain ⟨r, y1, ⟨⟨a2, y2⟩, y3⟩⟩ := key NN NN 0 (tk tok) m0 (by omega) hL.1 (NN_gt (by omega)) (NN_gt (by omega)) ht l2
  refine ⟨r, (r, 0, a2), ?_, ?_, rfl, by omega⟩
  · unfold F_X5_goes F_X2_reachesTo
    exact Ob_i y1 rfl
  · unfold F_X6_goes
    exact Ob_i l1 y2
