/-! the call place -/
theorem pk_put {P x : Int} {t u : Int → Int} (ht : bOk 100 (cut P t)) (hP : 0 ≤ P ∧ P < 6) (hx : 0 ≤ x ∧ x ≤ 99) (hu : ∀ p : Int, 0 ≤ p → p < P → u p = t p) (hu2 : u P = x) : pk (cut P t) ||| lShl (lN x.toNat) (8 * P) = pk (cut (P + 1) u) := by
  have b1 : bOk 256 (cut P t) := bOk_le ht (by omega)
  have hd := pkd_lt b1 (by omega)
  have low : ∀ n : Nat, P.toNat ≤ n → n ≤ 6 → sp (pkd (cut P t)) n = sp (pkd (cut P t)) P.toNat := by
    intro n
    induction n with
    | zero => intro h1 h2; rw [show P.toNat = 0 by omega]
    | succ n ih =>
      intro h1 h2
      by_cases e : P.toNat = n + 1
      · rw [e]
      · rw [sp, ih (by omega) (by omega)]
        have : pkd (cut P t) n = 0 := by
          unfold pkd
          rw [show cut P t (n : Int) = 0 from if_neg (by omega)]
          rfl
        rw [this]; omega
  have e1 : ∀ i, i < P.toNat → pkd (cut P t) i = pkd (cut (P + 1) u) i := fun i hi => by
    unfold pkd
    rw [show cut P t (i : Int) = t (i : Int) from if_pos (by omega), show cut (P + 1) u (i : Int) = u (i : Int) from if_pos (by omega), hu _ (by omega) (by omega)]
  have e2 : pkd (cut (P + 1) u) P.toNat = x.toNat := by
    unfold pkd
    rw [show ((P.toNat : Nat) : Int) = P by omega, show cut (P + 1) u P = u P from if_pos (by omega), hu2]
  have high : ∀ n : Nat, P.toNat + 1 ≤ n → n ≤ 6 → sp (pkd (cut (P + 1) u)) n = sp (pkd (cut (P + 1) u)) (P.toNat + 1) := by
    intro n
    induction n with
    | zero => intro h1 h2; omega
    | succ n ih =>
      intro h1 h2
      by_cases e : P.toNat + 1 = n + 1
      · rw [e]
      · rw [sp, ih (by omega) (by omega)]
        have : pkd (cut (P + 1) u) n = 0 := by
          unfold pkd
          rw [show cut (P + 1) u (n : Int) = 0 from if_neg (by omega)]
          rfl
        rw [this]; omega
  unfold pk
  rw [low 6 (by omega) (by omega), high 6 (by omega) (by omega), sp_cong P.toNat e1]
  refine por ⟨hx.1, by omega⟩ ⟨hP.1, hP.2⟩ (fun i hi => ?_) e2
  rw [← e1 i hi]
  exact hd i (by omega)
