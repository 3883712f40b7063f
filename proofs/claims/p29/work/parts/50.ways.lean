/-! what is read from the graph: tokens, most, ways and steps -/
theorem tokensAt_ok {P F n k p : Int} {found : Nat → Int64} {de fb mk wh by_ : Nat → Int} (h : NR P F n found de fb mk wh by_) (hn : n ≤ 300) (hP : P ≤ 6) (hk : 0 ≤ k ∧ k < n) (hp : 0 ≤ p ∧ p < P) : F_X1_tokensAt k p n found = some (row mk k p) := by
  obtain ⟨h1, h2⟩ := h.1 k hk.1 hk.2
  unfold F_X1_tokensAt F_X1_markingAt
  refine Ob_i (G_i (by omega) (el_i (by omega) (G_i (by omega) (el_i (by omega) (G_i (by omega) (Bd_i rfl)))))) ?_
  rw [h2]
  refine Ob_i (tokensIn_ok (bOk_le (cut_b h1) (by omega)) ⟨hp.1, by omega⟩) ?_
  show some (cut P (row mk k) p) = _
  rw [show cut P (row mk k) p = row mk k p from if_pos hp.2]
/-- the most of a place -/
theorem mostAt_ok {P F n p : Int} {found : Nat → Int64} {de fb mk wh by_ : Nat → Int} (h : NR P F n found de fb mk wh by_) (hn : 1 ≤ n ∧ n ≤ 300) (hP : P ≤ 6) (hp : 0 ≤ p ∧ p < P) : ∃ r, F_X1_mostAt p n found = some r ∧ F_X6_mostOf p n mk = some r ∧ 0 ≤ r ∧ r ≤ 99 := by
  have key : ∀ (fu fm : Nat) (a b k : Int), 0 ≤ k → k ≤ n → n - k < fu → n - k < fm → (0 ≤ a ∧ a ≤ 99) → (a = b ∨ (k = 0 ∧ a = 0 ∧ b = -1)) → ∃ r, F_X1_mostAt_b4 n found fu p a k = some r ∧ (F_X6_mostOf_b5 mk fm p n b k = some r ∧ 0 ≤ r ∧ r ≤ 99) := by
    intro fu
    induction fu with
    | zero => intro fm a b k h1 h2 h3; exact absurd h3 (by omega)
    | succ fu ih =>
      intro fm a b k h1 h2 h3 h4 ha hab
      obtain ⟨fm, rfl⟩ : ∃ j, fm = j + 1 := ⟨fm - 1, by omega⟩
      show ∃ r, F_X1_mostAt_b4_body n found (F_X1_mostAt_b4 n found fu) p a k = some r ∧ (F_X6_mostOf_b5_body mk (F_X6_mostOf_b5 mk fm) p n b k = some r ∧ _)
      unfold F_X1_mostAt_b4_body
      refine G_e (by omega) ?_
      by_cases c : n ≤ k
      · refine if_e c (so_e ⟨?_, ha⟩)
        obtain rfl : a = b := by omega
        unfold F_X6_mostOf_b5_body
        exact G_i (by omega) (if_i c rfl)
      · refine el_e c (Ob_e (tokensAt_ok h hn.2 hP ⟨h1, by omega⟩ hp) ?_)
        have ht := (h.1 k h1 (by omega)).1 p hp.1 hp.2
        have e1 : mk (6 * k + p).toNat = row mk k p := rfl
        generalize hx : row mk k p = x at ht e1 ⊢
        refine Ob_e (max_ok (by omega) (by omega)) (Bd_e ?_)
        have eA : F_X6_mostOf_b5_body mk (F_X6_mostOf_b5 mk fm) p n b k = F_X6_mostOf_b5 mk fm p n (if a < x then x else a) (k + 1) := by
          unfold F_X6_mostOf_b5_body F_X6_mostOf_b43
          refine G_i (by omega) (el_i c (Bd_i (G_i (by omega) (Bd_i ?_))))
          rw [e1]
          refine G_i (by omega) ?_
          by_cases q : x ≤ b
          · refine if_i q (Bd_i ?_)
            rw [if_neg (by omega), show a = b by omega]
          · refine el_i q (Bd_i (G_i (by omega) (Bd_i (Bd_i ?_))))
            rw [e1]
            by_cases q2 : a < x
            · rw [if_pos q2]
            · rw [if_neg q2, show a = x by omega]
        rw [eA]
        refine ih fm _ _ (k + 1) (by omega) (by omega) (by omega) (by omega) ?_ (Or.inl rfl)
        split <;> omega
  unfold F_X1_mostAt F_X6_mostOf
  exact key NN NN 0 (-1) 0 (by omega) (by omega) (NN_gt (by omega)) (NN_gt (by omega)) (by omega) (Or.inr ⟨rfl, rfl, rfl⟩)
/-- the first marking with so many tokens -/
theorem firstWith_ok {P F n p z : Int} {tok w : Nat → Int} {found : Nat → Int64} {de fb mk wh by_ ld : Nat → Int} (h : NR P F n found de fb mk wh by_) (hn : 1 ≤ n ∧ n ≤ 300) (hP : P ≤ 6) (hp : 0 ≤ p ∧ p < P) (hz : inR z) : ∃ r, F_X1_firstWith p z n found = some r ∧ (F_X6_wished_b8 P F tok w NN p z n 0 mk wh by_ ld = some (r, mk, wh, by_, ld) ∧ -1 ≤ r ∧ r < n) := by
  have key : ∀ (fu fm : Nat) (k : Int), 0 ≤ k → k ≤ n → n - k < fu → n - k < fm → ∃ r, F_X1_firstWith_b2 n found fu p z k = some r ∧ (F_X6_wished_b8 P F tok w fm p z n k mk wh by_ ld = some (r, mk, wh, by_, ld) ∧ -1 ≤ r ∧ r < n) := by
    intro fu
    induction fu with
    | zero => intro fm k h1 h2 h3; exact absurd h3 (by omega)
    | succ fu ih =>
      intro fm k h1 h2 h3 h4
      obtain ⟨fm, rfl⟩ : ∃ j, fm = j + 1 := ⟨fm - 1, by omega⟩
      show ∃ r, F_X1_firstWith_b2_body n found (F_X1_firstWith_b2 n found fu) p z k = some r ∧ (F_X6_wished_b8_body P F tok w (F_X6_wished_b8 P F tok w fm) p z n k mk wh by_ ld = some (r, mk, wh, by_, ld) ∧ _)
      unfold F_X1_firstWith_b2_body
      refine G_e (by omega) ?_
      by_cases c : n ≤ k
      · refine if_e c (so_e ⟨?_, by omega, by omega⟩)
        unfold F_X6_wished_b8_body
        exact G_i (by omega) (if_i c rfl)
      · refine el_e c (Ob_e (tokensAt_ok h hn.2 hP ⟨h1, by omega⟩ hp) ?_)
        have ht := (h.1 k h1 (by omega)).1 p hp.1 hp.2
        have e1 : mk (6 * k + p).toNat = row mk k p := rfl
        generalize hx : row mk k p = x at ht e1 ⊢
        refine G_e ⟨by omega, hz⟩ ?_
        by_cases q : x < z
        · refine if_e q (Bd_e ?_)
          have eA : F_X6_wished_b8_body P F tok w (F_X6_wished_b8 P F tok w fm) p z n k mk wh by_ ld = F_X6_wished_b8 P F tok w fm p z n (k + 1) mk wh by_ ld := by
            unfold F_X6_wished_b8_body
            refine G_i (by omega) (el_i c (Bd_i (G_i (by omega) (Bd_i ?_))))
            rw [e1]
            exact G_i ⟨by omega, hz⟩ (if_i q (Bd_i rfl))
          rw [eA]
          exact ih fm (k + 1) (by omega) (by omega) (by omega) (by omega)
        · refine el_e q (so_e ⟨?_, by omega, by omega⟩)
          unfold F_X6_wished_b8_body
          refine G_i (by omega) (el_i c (Bd_i (G_i (by omega) (Bd_i ?_))))
          rw [e1]
          exact G_i ⟨by omega, hz⟩ (el_i q rfl)
  unfold F_X1_firstWith
  exact key NN NN 0 (by omega) (by omega) (NN_gt (by omega)) (NN_gt (by omega))
/-- the length of the way back -/
theorem lengthTo_ok {P F n k : Int} {found : Nat → Int64} {de fb mk wh by_ : Nat → Int} (h : NR P F n found de fb mk wh by_) (hn : 1 ≤ n ∧ n ≤ 300) (hk : 0 ≤ k ∧ k < n) : F_X6_lengthTo k wh = some (de k.toNat) := by
  have key : ∀ (fu : Nat) (l k : Int), 0 ≤ k → k < n → k < fu → F_X6_lengthTo_b4 wh fu l k = some (l + de k.toNat) := by
    intro fu
    induction fu with
    | zero => intro l k h1 h2 h3; exact absurd h3 (by omega)
    | succ fu ih =>
      intro l k h1 h2 h3
      show F_X6_lengthTo_b4_body wh (F_X6_lengthTo_b4 wh fu) l k = _
      unfold F_X6_lengthTo_b4_body
      refine G_i (by omega) ?_
      by_cases c : k ≤ 0
      · refine if_i c ?_
        obtain rfl : k = 0 := by omega
        rw [show (0 : Int).toNat = 0 from rfl, h.2.2.2.1]
        congr 1
        omega
      · have hq := h.2.2.1 k (by omega) h2
        refine el_i c (Bd_i (G_i (by omega) (Bd_i ?_)))
        rw [ih (l + 1) (wh k.toNat) hq.1 (by omega) (by omega), hq.2.2.2.2.2]
        congr 1
        omega
  unfold F_X6_lengthTo
  rw [key NN 0 k hk.1 hk.2 (NN_gt (by omega))]
  congr 1
  omega
