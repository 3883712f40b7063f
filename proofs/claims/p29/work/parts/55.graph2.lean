/-! the numbers of the graph -/
theorem cnt_skip {F : Int} {ld : Nat → Int} {E : Nat} : ∀ j : Nat, (∀ i, i < j → ¬ (((E + i) % 8 : Nat) : Int) < F) → cntE F ld (E + j) = cntE F ld E
  | 0, _ => rfl
  | j + 1, g => by
    have q := cnt_skip (ld := ld) j (fun i hi => g i (by omega))
    have z := g j (by omega)
    show cntE F ld (E + j + 1) = _
    rw [cntE, if_neg (fun y => z y.1), q]
    omega
theorem outOf_ok {n F m : Int} {ld : Nat → Int} (hL : ldOk n F ld) (hn : n ≤ 300) (hF : 0 ≤ F ∧ F ≤ 8) (hm : 0 ≤ m ∧ m < n) : F_X6_outOf m F ld = some (cntE F ld (8 * m + 8).toNat - cntE F ld (8 * m).toNat) ∧ 0 ≤ cntE F ld (8 * m + 8).toNat - cntE F ld (8 * m).toNat ∧ cntE F ld (8 * m + 8).toNat - cntE F ld (8 * m).toNat ≤ 8 := by
  have key : ∀ (fu : Nat) (a f : Int), 0 ≤ f → f ≤ F → F - f < fu → 0 ≤ a → a ≤ f → a = cntE F ld (8 * m + f).toNat - cntE F ld (8 * m).toNat → ∃ r, F_X6_outOf_b4 F ld fu m a f = some r ∧ (r = cntE F ld (8 * m + 8).toNat - cntE F ld (8 * m).toNat ∧ 0 ≤ r ∧ r ≤ 8) := by
    intro fu
    induction fu with
    | zero => intro a f h1 h2 h3; exact absurd h3 (by omega)
    | succ fu ih =>
      intro a f h1 h2 h3 h4 h5 h6
      show ∃ r, F_X6_outOf_b4_body F ld (F_X6_outOf_b4 F ld fu) m a f = some r ∧ _
      unfold F_X6_outOf_b4_body F_X6_outOf_b33
      refine G_e (by omega) ?_
      by_cases c : F ≤ f
      · refine if_e c (so_e ⟨?_, h4, by omega⟩)
        have := cnt_skip (F := F) (ld := ld) (E := (8 * m + f).toNat) (8 - f).toNat (fun i hi => by omega)
        rw [show (8 * m + f).toNat + (8 - f).toNat = (8 * m + 8).toNat by omega] at this
        rw [this]; exact h6
      · have hl := hL m f hm.1 hm.2 h1 (by omega)
        have e1 : cntE F ld (8 * m + (f + 1)).toNat = cntE F ld (8 * m + f).toNat + (if ld (8 * m + f).toNat ≠ -1 then 1 else 0) := by
          rw [show (8 * m + (f + 1)).toNat = (8 * m + f).toNat + 1 by omega, cntE]
          by_cases q : ld (8 * m + f).toNat = -1
          · rw [if_neg (fun z => z.2 q), if_neg (fun z => z q)]
          · rw [if_pos ⟨by omega, q⟩, if_pos q]
        refine el_e c (Bd_e (G_e (by omega) (Bd_e (G_e (by omega) ?_))))
        by_cases q : ld (8 * m + f).toNat = -1
        · rw [if_neg (fun z => z q)] at e1
          exact if_e q (Bd_e (Bd_e (ih _ (f + 1) (by omega) (by omega) (by omega) (by omega) (by omega) (by omega))))
        · rw [if_pos q] at e1
          exact el_e q (Bd_e (Bd_e (ih _ (f + 1) (by omega) (by omega) (by omega) (by omega) (by omega) (by omega))))
  obtain ⟨r, g1, g2, g3⟩ := key NN 0 0 (by omega) hF.1 (NN_gt (by omega)) (by omega) (by omega) (by rw [show 8 * m + 0 = 8 * m by omega]; omega)
  subst g2
  exact ⟨g1, g3⟩
theorem cntE_b {F : Int} {ld : Nat → Int} : ∀ E : Nat, 0 ≤ cntE F ld E ∧ cntE F ld E ≤ E
  | 0 => by simp [cntE]
  | E + 1 => by
    have := cntE_b (F := F) (ld := ld) E
    rw [cntE]
    split <;> omega
theorem endsE_b {F : Int} {ld : Nat → Int} : ∀ m : Nat, 0 ≤ endsE F ld m ∧ endsE F ld m ≤ m
  | 0 => by simp [endsE]
  | m + 1 => by
    have := endsE_b (F := F) (ld := ld) m
    rw [endsE]
    split <;> omega
theorem graphAll_ok {P n F x th : Int} {tok w mk wh by_ ld co : Nat → Int} (hL : ldOk n F ld) (hn : 1 ≤ n ∧ n ≤ 300) (hF : 0 ≤ F ∧ F ≤ 8) (hx : 1 ≤ x ∧ x ≤ 3) :
    ∃ r, F_X6_graph_b47 P F tok w NN x n 0 0 0 th mk wh by_ ld co = some r ∧ ((∃ co', r.2 = (th, mk, wh, by_, ld, co')) ∧ (x = 1 → r.1 = cntE F ld (8 * n).toNat) ∧ (x = 2 → r.1 = endsE F ld n.toNat) ∧ (x = 3 → isB r.1 (∀ x : Int, 0 ≤ x → x < n → clo n F ld (fun y => y = 0) x))) := by
  have key : ∀ (fu : Nat) (a b k : Int) (co : Nat → Int), 0 ≤ k → k ≤ n → n - k < fu → a = cntE F ld (8 * k).toNat → b = endsE F ld k.toNat → (∀ y : Nat, (y : Int) < k → co y = if y = 0 then 1 else 0) →
      ∃ r, F_X6_graph_b47 P F tok w fu x n a b k th mk wh by_ ld co = some r ∧ ((∃ co', r.2 = (th, mk, wh, by_, ld, co')) ∧ (x = 1 → r.1 = cntE F ld (8 * n).toNat) ∧ (x = 2 → r.1 = endsE F ld n.toNat) ∧ (x = 3 → isB r.1 (∀ x : Int, 0 ≤ x → x < n → clo n F ld (fun y => y = 0) x))) := by
    intro fu
    induction fu with
    | zero => intro a b k co h1 h2 h3; exact absurd h3 (by omega)
    | succ fu ih =>
      intro a b k co h1 h2 h3 h4 h5 h6
      show ∃ r, F_X6_graph_b47_body P F tok w (F_X6_graph_b47 P F tok w fu) x n a b k th mk wh by_ ld co = some r ∧ _
      unfold F_X6_graph_b47_body F_X6_graph_b78 F_X6_graph_b97
      refine G_e (by omega) ?_
      by_cases c : n ≤ k
      · obtain rfl : k = n := by omega
        have hS : SI k F ld (fun y => y = 0) co := by
          refine ⟨fun y hy => ?_, fun y y1 y2 y3 => ?_, fun y hy => ?_⟩
          · rw [h6 y (by omega)]
            by_cases e : y = 0
            · rw [if_pos e]; exact Or.inr rfl
            · rw [if_neg e]; exact Or.inl rfl
          · rw [h6 y.toNat (by omega)] at y3
            by_cases e : y.toNat = 0
            · exact fun C c1 c2 => c1 y (by show y = 0; omega)
            · rw [if_neg e] at y3; exact absurd rfl y3
          · have hy0 : y = 0 := hy
            subst hy0
            refine ⟨by omega, by omega, ?_⟩
            rw [h6 _ (by omega), if_pos (by omega)]; omega
        obtain ⟨r5, g1, g2, g3⟩ := spread_ok hL hn hF hS
        refine if_e c (Ob_e g1 (G_e (by omega) ?_))
        have b1 := cntE_b (F := F) (ld := ld) (8 * k).toNat
        by_cases x1 : x = 1
        · exact if_e x1 (so_e ⟨⟨_, rfl⟩, fun _ => h4, fun q => by omega, fun q => by omega⟩)
        · refine el_e x1 (G_e (by omega) ?_)
          by_cases x2 : x = 2
          · exact if_e x2 (so_e ⟨⟨_, rfl⟩, fun q => by omega, fun _ => h5, fun q => by omega⟩)
          · obtain ⟨r6, k1, k2⟩ := allCome_ok hn g2
            have hiff : (∀ x : Int, 0 ≤ x → x < k → r5 x.toNat ≠ 0) ↔ ∀ x : Int, 0 ≤ x → x < k → clo k F ld (fun y => y = 0) x :=
              ⟨fun z y y1 y2 => (g3 y y1 y2).mp (z y y1 y2), fun z y y1 y2 => (g3 y y1 y2).mpr (z y y1 y2)⟩
            refine el_e x2 (Ob_e k1 (G_e (by have := isB_01 k2; omega) ?_))
            rcases k2 with ⟨d1, d2⟩ | ⟨d1, d2⟩
            · exact el_e (by omega) (so_e ⟨⟨_, rfl⟩, fun q => by omega, fun q => by omega, fun _ => Or.inl ⟨rfl, hiff.mp d2⟩⟩)
            · exact if_e d1 (so_e ⟨⟨_, rfl⟩, fun q => by omega, fun q => by omega, fun _ => Or.inr ⟨rfl, fun z => d2 (hiff.mpr z)⟩⟩)
      · obtain ⟨g1, g2⟩ := outOf_ok hL hn.2 hF ⟨h1, by omega⟩
        have e1 : endsE F ld (k + 1).toNat = endsE F ld k.toNat + (if cntE F ld (8 * k + 8).toNat - cntE F ld (8 * k).toNat = 0 then 1 else 0) := by
          rw [show (k + 1).toNat = k.toNat + 1 by omega, endsE, show 8 * (k.toNat + 1) = (8 * k + 8).toNat by omega, show 8 * k.toNat = (8 * k).toNat by omega]
          by_cases q : cntE F ld (8 * k + 8).toNat = cntE F ld (8 * k).toNat
          · rw [if_pos q, if_pos (by omega)]
          · rw [if_neg q, if_neg (by omega)]
        have hco : ∀ v : Int, v = (if k = 0 then 1 else 0) → ∀ y : Nat, (y : Int) < k + 1 → uI co k.toNat v y = if y = 0 then 1 else 0 := fun v hv y hy => by
          by_cases e : y = k.toNat
          · subst e
            rw [uI_same, hv]
            by_cases z : k = 0
            · rw [if_pos z, if_pos (by omega)]
            · rw [if_neg z, if_neg (by omega)]
          · rw [uI_ne _ _ e]; exact h6 y (by omega)
        have e8 : 8 * (k + 1) = 8 * k + 8 := by omega
        have step : ∀ v : Int, v = endsE F ld (k + 1).toNat → ∃ r, (if k = 0 then G ((0 ≤ k ∧ k < ((300 : Nat) : Int)) ∧ ((1 : Int) = 0 ∨ (1 : Int) = 1)) (Bd (uI co k.toNat 1) (fun f1 => Bd (k + 1) (fun v2 => F_X6_graph_b47 P F tok w fu x n (a + (cntE F ld (8 * k + 8).toNat - cntE F ld (8 * k).toNat)) v v2 th mk wh by_ ld f1))) else G ((0 ≤ k ∧ k < ((300 : Nat) : Int)) ∧ ((0 : Int) = 0 ∨ (0 : Int) = 1)) (Bd (uI co k.toNat 0) (fun f1 => Bd (k + 1) (fun v2 => F_X6_graph_b47 P F tok w fu x n (a + (cntE F ld (8 * k + 8).toNat - cntE F ld (8 * k).toNat)) v v2 th mk wh by_ ld f1)))) = some r ∧ ((∃ co', r.2 = (th, mk, wh, by_, ld, co')) ∧ (x = 1 → r.1 = cntE F ld (8 * n).toNat) ∧ (x = 2 → r.1 = endsE F ld n.toNat) ∧ (x = 3 → isB r.1 (∀ x : Int, 0 ≤ x → x < n → clo n F ld (fun y => y = 0) x))) := by
          intro v hv
          by_cases z : k = 0
          · exact if_e z (G_e (by omega) (Bd_e (Bd_e (ih _ _ (k + 1) _ (by omega) (by omega) (by omega) (by rw [e8]; omega) hv (hco 1 (by rw [if_pos z]))))))
          · exact el_e z (G_e (by omega) (Bd_e (Bd_e (ih _ _ (k + 1) _ (by omega) (by omega) (by omega) (by rw [e8]; omega) hv (hco 0 (by rw [if_neg z]))))))
        refine el_e c (Ob_e g1 (Bd_e (Ob_e g1 (G_e (by omega) ?_))))
        by_cases q : cntE F ld (8 * k + 8).toNat - cntE F ld (8 * k).toNat = 0
        · rw [if_pos q] at e1
          exact if_e q (Bd_e (G_e (by omega) (step _ (by omega))))
        · rw [if_neg q] at e1
          exact el_e q (Bd_e (G_e (by omega) (step _ (by omega))))
  exact key NN 0 0 0 co (by omega) (by omega) (NN_gt (by omega)) rfl rfl (fun y hy => absurd hy (by omega))
