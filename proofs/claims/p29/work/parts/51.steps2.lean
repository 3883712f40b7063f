/-! parts and rests; the firing at a step of the way -/
theorem iDiv_ok {a b : Int} (ha : 0 ≤ a ∧ a < 2147483648) (hb : 0 < b ∧ b < 2147483648) : iDiv a b = a / b := by
  unfold iDiv
  have h : vI b ≠ -1 := fun z => by
    have := congrArg Int32.toInt z
    rw [vI_toInt (by omega), show (-1 : Int32).toInt = -1 from by decide] at this
    omega
  rw [Int32.toInt_div_of_ne_right _ _ h, vI_toInt (by omega), vI_toInt (by omega), Int.tdiv_eq_ediv_of_nonneg ha.1]
theorem iRem_ok {a b : Int} (ha : 0 ≤ a ∧ a < 2147483648) (hb : 0 < b ∧ b < 2147483648) : iRem a b = a % b := by
  have h : vI a / vI b = vI (a / b) := by
    have := iDiv_ok ha hb
    unfold iDiv at this
    rw [← this, vI_of]
  unfold iRem
  have h1 := Int.emod_nonneg a (by omega : b ≠ 0)
  have h2 := Int.emod_lt_of_pos a hb.1
  have h3 := Int.mul_ediv_add_emod a b
  rw [h, vI_mul, vI_sub, Int.mul_comm (a / b) b, show a - b * (a / b) = a % b by omega, vI_toInt (by omega)]
theorem depthOf_ok {n k : Int} {de : Nat → Int} (hn : 1 ≤ n ∧ n ≤ 300) (hk : -1 ≤ k ∧ k < n) : F_X1_depthOf k n de = some (if k = -1 then -1 else de k.toNat) := by
  unfold F_X1_depthOf F_X1_depthOf_b21
  refine G_i (by omega) ?_
  by_cases c : k < 0
  · refine if_i c ?_
    rw [if_pos (by omega)]
  · refine el_i c (G_i (by omega) (el_i (by omega) (G_i (by omega) (Bd_i ?_))))
    rw [if_neg (by omega)]
theorem edgeTo_ok {n k : Int} {fb : Nat → Int} (hn : 1 ≤ n ∧ n ≤ 300) (hk : 0 ≤ k ∧ k < n) : F_X1_edgeTo k n fb = some (fb k.toNat) := by
  unfold F_X1_edgeTo
  exact G_i (by omega) (el_i (by omega) (G_i (by omega) (el_i (by omega) (G_i (by omega) (Bd_i rfl)))))
theorem towards_ok {P F n k x th : Int} {tok w : Nat → Int} {found : Nat → Int64} {de fb mk wh by_ ld : Nat → Int} (h : NR P F n found de fb mk wh by_) (hn : 1 ≤ n ∧ n ≤ 300) (hF : 0 ≤ F ∧ F ≤ 8) (hk : -1 ≤ k ∧ k < n) (hx : 0 ≤ x ∧ x < 2147483648) : ∃ r, F_X1_firingTowards k x n de fb = some r ∧ (F_X6_step_b68 P F tok w x k (if k = -1 then 0 else de k.toNat) th mk wh by_ ld = some (r, th, mk, wh, by_, ld) ∧ -1 ≤ r ∧ r < 8) := by
  have key : ∀ (fu fm : Nat) (k l : Int), 1 ≤ k → k < n → l = de k.toNat - 1 → 0 ≤ l → l < 300 → l < fu → l < fm → ∃ r, F_X1_firingTowards_b25 n de fb fu x (fb k.toNat) l = some r ∧ (F_X6_step_b84 P F tok w fm x k l th mk wh by_ ld = some (r, th, mk, wh, by_, ld) ∧ -1 ≤ r ∧ r < 8) := by
    intro fu
    induction fu with
    | zero => intro fm k l h1 h2 h3 h4 h5 h6; exact absurd h6 (by omega)
    | succ fu ih =>
      intro fm k l h1 h2 h3 h4 h5 h6 h7
      obtain ⟨fm, rfl⟩ : ∃ j, fm = j + 1 := ⟨fm - 1, by omega⟩
      show ∃ r, F_X1_firingTowards_b25_body n de fb (F_X1_firingTowards_b25 n de fb fu) x (fb k.toNat) l = some r ∧ (F_X6_step_b84_body P F tok w (F_X6_step_b84 P F tok w fm) x k l th mk wh by_ ld = some (r, th, mk, wh, by_, ld) ∧ _)
      obtain ⟨w1, w2, b1, b2, e1, e2⟩ := h.2.2.1 k h1 h2
      unfold F_X1_firingTowards_b25_body
      refine G_e (by omega) ?_
      rw [e1]
      by_cases c : l ≤ x
      · refine if_e c (G_e (by omega) (so_e ?_))
        have e3 : iRem (8 * wh k.toNat + by_ k.toNat) 8 = by_ k.toNat := by
          rw [iRem_ok (by omega) (by omega)]; omega
        rw [e3]
        refine ⟨?_, by omega, by omega⟩
        unfold F_X6_step_b84_body
        exact G_i (by omega) (if_i c (G_i (by omega) (Bd_i rfl)))
      · refine el_e c (G_e (by omega) ?_)
        have e3 : iDiv (8 * wh k.toNat + by_ k.toNat) 8 = wh k.toNat := by
          rw [iDiv_ok (by omega) (by omega)]; omega
        rw [e3]
        have hw1 : 1 ≤ wh k.toNat := by
          rcases Int.lt_or_le (wh k.toNat) 1 with q | q
          · exfalso
            rw [show wh k.toNat = 0 by omega, show (0 : Int).toNat = 0 from rfl, h.2.2.2.1] at e2
            omega
          · exact q
        refine Ob_e (edgeTo_ok hn ⟨w1, by omega⟩) (Bd_e ?_)
        have eA : F_X6_step_b84_body P F tok w (F_X6_step_b84 P F tok w fm) x k l th mk wh by_ ld = F_X6_step_b84 P F tok w fm x (wh k.toNat) (l + -1) th mk wh by_ ld := by
          unfold F_X6_step_b84_body
          exact G_i (by omega) (el_i c (G_i (by omega) (Bd_i (Bd_i rfl))))
        rw [eA]
        exact ih fm (wh k.toNat) (l + -1) hw1 (by omega) (by omega) (by omega) (by omega) (by omega) (by omega)
  unfold F_X1_firingTowards
  refine Ob_e (depthOf_ok hn hk) ?_
  have hd : k ≠ -1 → 0 ≤ de k.toNat ∧ de k.toNat ≤ k := fun q => h.2.2.2.2.2 k (by omega) hk.2
  unfold F_X6_step_b68
  by_cases c : k = -1
  · rw [if_pos c, if_pos c]
    refine G_e (by omega) (el_e (by omega) (so_e ⟨?_, by omega, by omega⟩))
    exact G_i (by omega) (el_i (by omega) rfl)
  · rw [if_neg c, if_neg c]
    have := hd c
    refine G_e (by omega) ?_
    by_cases q : x < de k.toNat
    · refine if_e q (Ob_e (edgeTo_ok hn (by omega)) (Bd_e ?_))
      have k1 : 1 ≤ k := by
        rcases Int.lt_or_le k 1 with z | z
        · exfalso
          rw [show k = 0 by omega, show (0 : Int).toNat = 0 from rfl, h.2.2.2.1] at q
          omega
        · exact z
      obtain ⟨r, g1, g2, g3⟩ := key NN NN k (de k.toNat - 1) k1 hk.2 rfl (by omega) (by omega) (NN_gt (by omega)) (NN_gt (by omega))
      exact ⟨r, g1, G_i (by omega) (if_i q (Bd_i g2)), g3⟩
    · refine el_e q (so_e ⟨?_, by omega, by omega⟩)
      exact G_i (by omega) (el_i q rfl)
