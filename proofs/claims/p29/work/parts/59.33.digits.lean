/-! the reference's rows and rounds -/
theorem digit_ok {B k p c : Nat} (hB : 1 ≤ B ∧ B ≤ 10) (hk : k ≤ 8) (hp : p < k) (hc : c < 2147483648) : F_X6_digit (c : Int) (B : Int) (k : Int) (p : Int) = some ((dg B k c p : Nat) : Int) := by
  have key : ∀ (fu q : Nat), p ≤ q → q < k → k - q < fu → F_X6_digit_b6 fu (B : Int) (k : Int) ((c / B ^ (q - p) : Nat) : Int) (q : Int) = some ((dg B k c p : Nat) : Int) := by
    intro fu
    induction fu with
    | zero => intro q h1 h2 h3; exact absurd h3 (by omega)
    | succ fu ih =>
      intro q h1 h2 h3
      show F_X6_digit_b6_body (F_X6_digit_b6 fu) (B : Int) (k : Int) ((c / B ^ (q - p) : Nat) : Int) (q : Int) = _
      have hle := Nat.div_le_self c (B ^ (q - p))
      have hnn := Int.natCast_nonneg (c / B ^ (q - p))
      unfold F_X6_digit_b6_body
      refine Bd_i (G_i (by omega) ?_)
      by_cases z : (k : Int) - 1 ≤ (q : Int)
      · refine if_i z (G_i (by omega) ?_)
        rw [iRem_ok (by omega) (by omega), ← Int.natCast_emod]
        unfold dg
        rw [show k - 1 - p = q - p by omega]
      · refine el_i z (G_i (by omega) (Bd_i (Bd_i ?_)))
        rw [iDiv_ok (by omega) (by omega), ← Int.natCast_ediv, Nat.div_div_eq_div_mul, ← Nat.pow_succ]
        have := ih (q + 1) (by omega) (by omega) (by omega)
        rw [show q + 1 - p = q - p + 1 by omega] at this
        exact this
  unfold F_X6_digit
  have := key NN p (Nat.le_refl _) hp (by have := NN_gt (z := 100) (by omega); omega)
  rw [Nat.sub_self, Nat.pow_zero, Nat.div_one] at this
  exact this
theorem bB_iff {B k a b : Nat} : bB B k a b ↔ ∀ s, s < k → a / B ^ s % B ≤ b / B ^ s % B := by
  constructor
  · intro h s hs
    have := h (k - 1 - s) (by omega)
    unfold dg at this
    rw [show k - 1 - (k - 1 - s) = s by omega] at this
    exact this
  · intro h p hp
    exact h (k - 1 - p) (by omega)
theorem isBelow_ok {B k a b : Nat} (hB : 2 ≤ B ∧ B ≤ 10) (hk : k ≤ 8) (ha : a < B ^ k) (ha2 : a < 2147483648) (hb2 : b < 2147483648) : ∃ r, F_X6_isBelow (a : Int) (b : Int) (B : Int) = some r ∧ isB r (bB B k a b) := by
  have key : ∀ (fu t : Nat) (d : Int), t ≤ k → k - t < fu → isB d (∀ s, s < t → a / B ^ s % B ≤ b / B ^ s % B) → ∃ r, F_X6_isBelow_b8 fu (B : Int) ((a / B ^ t : Nat) : Int) ((b / B ^ t : Nat) : Int) d = some r ∧ isB r (bB B k a b) := by
    intro fu
    induction fu with
    | zero => intro t d h1 h2; exact absurd h2 (by omega)
    | succ fu ih =>
      intro t d h1 h2 h3
      show ∃ r, F_X6_isBelow_b8_body (F_X6_isBelow_b8 fu) (B : Int) ((a / B ^ t : Nat) : Int) ((b / B ^ t : Nat) : Int) d = some r ∧ _
      have hla := Nat.div_le_self a (B ^ t)
      have hlb := Nat.div_le_self b (B ^ t)
      have hna := Int.natCast_nonneg (a / B ^ t)
      have hnb := Int.natCast_nonneg (b / B ^ t)
      unfold F_X6_isBelow_b8_body
      refine G_e (by omega) ?_
      by_cases z : ((a / B ^ t : Nat) : Int) ≤ 0
      · refine if_e z (G_e (isB_01 h3) (so_e (isB_iff h3 (Iff.trans ⟨fun h s hs => ?_, fun h s hs => h s (by omega)⟩ bB_iff.symm))))
        by_cases q : s < t
        · exact h s q
        · have : a / B ^ s = 0 := by
            rw [show s = t + (s - t) by omega, Nat.pow_add, ← Nat.div_div_eq_div_mul, show a / B ^ t = 0 by omega, Nat.zero_div]
          rw [this, Nat.zero_mod]
          exact Nat.zero_le _
      · have ht : t < k := by
          refine Decidable.byContradiction fun q => z ?_
          rw [show t = k by omega, Nat.div_eq_of_lt ha]
          exact Int.le_refl 0
        have fin : ∀ e : Int, isB e (∀ s, s < t + 1 → a / B ^ s % B ≤ b / B ^ s % B) → ∃ r, F_X6_isBelow_b32 (F_X6_isBelow_b8 fu) (B : Int) ((a / B ^ t : Nat) : Int) ((b / B ^ t : Nat) : Int) e = some r ∧ isB r (bB B k a b) := fun e he => by
          unfold F_X6_isBelow_b32
          refine G_e (by omega) (Bd_e (G_e (by omega) (Bd_e ?_)))
          rw [iDiv_ok (by omega) (by omega), iDiv_ok (by omega) (by omega), ← Int.natCast_ediv, ← Int.natCast_ediv, Nat.div_div_eq_div_mul, Nat.div_div_eq_div_mul, ← Nat.pow_succ]
          exact ih (t + 1) e (by omega) (by omega) he
        refine el_e z ?_
        rcases h3 with ⟨rfl, h3⟩ | ⟨rfl, h3⟩
        · refine G_e (by omega) (el_e (by omega) (G_e (by omega) (G_e (by omega) (Bd_e (Bd_e ?_)))))
          rw [iRem_ok (by omega) (by omega), iRem_ok (by omega) (by omega), ← Int.natCast_emod, ← Int.natCast_emod]
          have m1 := Nat.mod_lt (a / B ^ t) (show 0 < B by omega)
          have n1 := Int.natCast_nonneg (a / B ^ t % B)
          have n2 := Int.natCast_nonneg (b / B ^ t % B)
          have m2 := Nat.mod_lt (b / B ^ t) (show 0 < B by omega)
          refine G_e (by omega) ?_
          by_cases y : ((b / B ^ t % B : Nat) : Int) < ((a / B ^ t % B : Nat) : Int)
          · exact if_e y (fin 0 (Or.inr ⟨rfl, fun q => by have := q t (by omega); omega⟩))
          · exact el_e y (fin 1 (Or.inl ⟨rfl, fun s hs => by
              by_cases q : s = t
              · rw [q]; omega
              · exact h3 s (by omega)⟩))
        · exact G_e (by omega) (if_e rfl (fin 0 (Or.inr ⟨rfl, fun q => h3 (fun s hs => q s (by omega))⟩)))
  unfold F_X6_isBelow
  have := key NN 0 1 (Nat.zero_le _) (by have := NN_gt (z := 100) (by omega); omega) (Or.inl ⟨rfl, fun s hs => absurd hs (Nat.not_lt_zero s)⟩)
  rw [Nat.pow_zero, Nat.div_one, Nat.div_one] at this
  exact this
/-- what a firing (the first) gives a place (the second), less what it takes -/
def chg (w : Nat → Int) (f p : Nat) : Int := wt w 1 f p - wt w 0 f p
theorem change_ok {w : Nat → Int} {f p : Nat} (hf : f < 8) (hp : p < 6) : F_X6_change (f : Int) (p : Int) w = some (chg w f p) := by
  unfold F_X6_change
  exact Ob_i (wt6_ok (by omega) (by omega) (by omega)) (Ob_i (wt6_ok (by omega) (by omega) (by omega)) rfl)
theorem chg_b {w : Nat → Int} {f p : Nat} (hw : wOk w) (hf : f < 8) (hp : p < 6) : -3 ≤ chg w f p ∧ chg w f p ≤ 3 := by
  have h1 := hw.1 1 f p (by omega) (by omega) (by omega) (by omega) (by omega) (by omega)
  have h0 := hw.1 0 f p (by omega) (by omega) (by omega) (by omega) (by omega) (by omega)
  unfold chg
  omega
