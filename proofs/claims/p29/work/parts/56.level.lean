/-! the reference's level of a firing, held against the class's -/
theorem levelAll_ok {P n F f th v : Int} {tok w mk wh by_ ld co : Nat → Int} (hL : ldOk n F ld) (hn : 1 ≤ n ∧ n ≤ 300) (hF : 0 ≤ F ∧ F ≤ 8) (hf : 0 ≤ f ∧ f < F)
    (hv : (v = 0 ∧ ∀ m : Int, 0 ≤ m → m < n → ld (8 * m + f).toNat = -1) ∨ ((∃ m : Int, 0 ≤ m ∧ m < n ∧ ld (8 * m + f).toNat ≠ -1) ∧ ((v = 2 ∧ ∀ x : Int, 0 ≤ x → x < n → clo n F ld (fun y => 0 ≤ y ∧ y < n ∧ ld (8 * y + f).toNat ≠ -1) x) ∨ (v = 1 ∧ ¬ ∀ x : Int, 0 ≤ x → x < n → clo n F ld (fun y => 0 ≤ y ∧ y < n ∧ ld (8 * y + f).toNat ≠ -1) x)))) :
    ∃ r, F_X6_level_b32 P F tok w NN f n 0 0 th mk wh by_ ld co = some r ∧ (r.1 = v ∧ ∃ co', r.2 = (th, mk, wh, by_, ld, co')) := by
  have key : ∀ (fu : Nat) (a k : Int) (co : Nat → Int), 0 ≤ k → k ≤ n → n - k < fu → (∀ y : Nat, (y : Int) < k → co y = if ld (8 * (y : Int) + f).toNat = -1 then 0 else 1) → ((a = 0 ∧ ∀ m : Int, 0 ≤ m → m < k → ld (8 * m + f).toNat = -1) ∨ (a = 1 ∧ ∃ m : Int, 0 ≤ m ∧ m < k ∧ ld (8 * m + f).toNat ≠ -1)) →
      ∃ r, F_X6_level_b32 P F tok w fu f n a k th mk wh by_ ld co = some r ∧ (r.1 = v ∧ ∃ co', r.2 = (th, mk, wh, by_, ld, co')) := by
    intro fu
    induction fu with
    | zero => intro a k co h1 h2 h3; exact absurd h3 (by omega)
    | succ fu ih =>
      intro a k co h1 h2 h3 h4 h5
      show ∃ r, F_X6_level_b32_body P F tok w (F_X6_level_b32 P F tok w fu) f n a k th mk wh by_ ld co = some r ∧ _
      have ha : a = 0 ∨ a = 1 := h5.elim (fun q => Or.inl q.1) (fun q => Or.inr q.1)
      unfold F_X6_level_b32_body F_X6_level_b65 F_X6_level_b80 F_X6_level_b85 F_X6_level_b101
      refine G_e (by omega) ?_
      by_cases c : n ≤ k
      · obtain rfl : k = n := by omega
        refine if_e c (G_e (by omega) (el_e (by omega) (G_e (by clear hv h5; omega) ?_)))
        rcases h5 with ⟨a1, a2⟩ | ⟨a1, m0, a2, a3, a4⟩
        · refine if_e a1 (G_e (by omega) (el_e (by omega) (so_e ⟨?_, _, rfl⟩)))
          rcases hv with ⟨b1, -⟩ | ⟨⟨m, b1, b2, b3⟩, -⟩
          · exact b1.symm
          · exact absurd (a2 m b1 b2) b3
        · refine el_e (by omega) ?_
          have hS : SI k F ld (fun y => 0 ≤ y ∧ y < k ∧ ld (8 * y + f).toNat ≠ -1) co := by
            refine ⟨fun y hy => ?_, fun y y1 y2 y3 => ?_, fun y hy => ⟨hy.1, hy.2.1, ?_⟩⟩
            · rw [h4 y (by omega)]
              by_cases e : ld (8 * (y : Int) + f).toNat = -1
              · rw [if_pos e]; exact Or.inl rfl
              · rw [if_neg e]; exact Or.inr rfl
            · rw [h4 y.toNat (by omega), show ((y.toNat : Nat) : Int) = y by omega] at y3
              by_cases e : ld (8 * y + f).toNat = -1
              · rw [if_pos e] at y3; exact absurd rfl y3
              · exact fun C c1 c2 => c1 y ⟨y1, y2, e⟩
            · have y1 : 0 ≤ y := hy.1
              have y2 : y < k := hy.2.1
              rw [h4 y.toNat (by omega), show ((y.toNat : Nat) : Int) = y by omega, if_neg hy.2.2]
              omega
          obtain ⟨r5, g1, g2, g3⟩ := spread_ok hL hn hF hS
          obtain ⟨r6, k1, k2⟩ := allCome_ok hn g2
          have hiff : (∀ x : Int, 0 ≤ x → x < k → r5 x.toNat ≠ 0) ↔ ∀ x : Int, 0 ≤ x → x < k → clo k F ld (fun y => 0 ≤ y ∧ y < k ∧ ld (8 * y + f).toNat ≠ -1) x :=
            ⟨fun z y y1 y2 => (g3 y y1 y2).mp (z y y1 y2), fun z y y1 y2 => (g3 y y1 y2).mpr (z y y1 y2)⟩
          refine Ob_e g1 (Ob_e k1 (G_e (by have := isB_01 k2; clear hv; omega) ?_))
          rcases hv with ⟨-, b2⟩ | ⟨-, b2⟩
          · exact absurd (b2 m0 a2 a3) a4
          · rcases k2 with ⟨d1, d2⟩ | ⟨d1, d2⟩
            · refine el_e (by clear b2; omega) (so_e ⟨?_, _, rfl⟩)
              rcases b2 with ⟨q, -⟩ | ⟨-, q⟩
              · exact q.symm
              · exact absurd (hiff.mp d2) q
            · refine if_e d1 (so_e ⟨?_, _, rfl⟩)
              rcases b2 with ⟨-, q⟩ | ⟨q, -⟩
              · exact absurd (hiff.mpr q) d2
              · exact q.symm
      · have hl := hL k f h1 (by omega) hf.1 hf.2
        refine el_e c (Bd_e (G_e (by omega) (Bd_e (G_e (by omega) ?_))))
        have hco : ∀ z : Int, z = (if ld (8 * k + f).toNat = -1 then 0 else 1) → ∀ y : Nat, (y : Int) < k + 1 → uI co k.toNat z y = if ld (8 * (y : Int) + f).toNat = -1 then 0 else 1 := fun z hz y hy => by
          by_cases e : y = k.toNat
          · subst e
            rw [uI_same, hz, show ((k.toNat : Nat) : Int) = k by omega]
          · rw [uI_ne _ _ e]; exact h4 y (by omega)
        by_cases q : ld (8 * k + f).toNat = -1
        · have hk := hco 0 (by rw [if_pos q])
          refine if_e q (G_e (by clear hv h5; omega) (Bd_e (G_e (by clear hv h5; omega) ?_)))
          rcases h5 with ⟨a1, a2⟩ | ⟨a1, m0, a2, a3, a4⟩
          · refine if_e a1 (G_e (by omega) (Bd_e ?_))
            rw [uI_same]
            refine G_e (by omega) (if_e rfl (Bd_e (ih 0 (k + 1) _ (by omega) (by omega) (by omega) hk (Or.inl ⟨rfl, fun m m1 m2 => ?_⟩))))
            by_cases e : m = k
            · rw [e]; exact q
            · exact a2 m m1 (by omega)
          · exact el_e (by omega) (Bd_e (ih 1 (k + 1) _ (by omega) (by omega) (by omega) hk (Or.inr ⟨rfl, m0, a2, by omega, a4⟩)))
        · have hk := hco 1 (by rw [if_neg q])
          refine el_e q (G_e (by clear hv h5; omega) (Bd_e (G_e (by clear hv h5; omega) ?_)))
          have one := ih 1 (k + 1) _ (by omega) (by omega) (by omega) hk (Or.inr ⟨rfl, k, h1, by omega, q⟩)
          rcases h5 with ⟨a1, a2⟩ | ⟨a1, -⟩
          · refine if_e a1 (G_e (by omega) (Bd_e ?_))
            rw [uI_same]
            exact G_e (by omega) (el_e (by omega) (Bd_e one))
          · exact el_e (by omega) (Bd_e one)
  exact key NN 0 0 co (by omega) (by omega) (NN_gt (by omega)) (fun y hy => absurd hy (by omega)) (Or.inl ⟨rfl, fun m m1 m2 => absurd m2 (by omega)⟩)
