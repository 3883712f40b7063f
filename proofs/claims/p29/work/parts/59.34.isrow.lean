/-! the reference: is a code a row, a round -/
def gRow (w : Nat → Int) (j i : Nat) : Int := chg w j i
/-- no firing empties -/
def adRow (n : Nat) (w : Nat → Int) (i : Nat) : Prop := ∀ j : Nat, j < n → wt w 4 (j : Int) (i : Int) = 0
theorem isRow_ok {k n c : Nat} {w : Nat → Int} (hw : wOk w) (hk : k ≤ 6) (hn : n ≤ 8) (hc : 1 ≤ c ∧ c < 2147483648) : ∃ r, F_X6_isRow (c : Int) (k : Int) (n : Int) w = some r ∧ isB r (bS 4 k n (gRow w) (adRow n w) c) := by
  have inner : ∀ (ag4 : Int → Int → Int → Option Int) (C : Prop) (f : Nat), f < n → ∀ (fu p : Nat) (d : Int), p ≤ k → k - p < fu → isB d (C ∧ ∀ q : Nat, q < p → (dg 4 k c q = 0 ∨ wt w 4 (f : Int) (q : Int) = 0)) → ∃ e, isB e (C ∧ (∀ q : Nat, q < k → (dg 4 k c q = 0 ∨ wt w 4 (f : Int) (q : Int) = 0)) ∧ si k (fun i => (dg 4 k c i : Int) * gRow w f i) = 0) ∧ F_X6_isRow_b18 (k : Int) (n : Int) w ag4 fu (c : Int) d (f : Int) (si p (fun i => (dg 4 k c i : Int) * gRow w f i)) (p : Int) = ag4 (c : Int) e ((f : Int) + 1) := by
    intro ag4 C f hf fu
    induction fu with
    | zero => intro p d h1 h2; exact absurd h2 (by omega)
    | succ fu ih =>
      intro p d h1 h2 h3
      show ∃ e, _ ∧ F_X6_isRow_b18_body (k : Int) (n : Int) w ag4 (F_X6_isRow_b18 (k : Int) (n : Int) w ag4 fu) (c : Int) d (f : Int) _ (p : Int) = _
      unfold F_X6_isRow_b18_body
      have hd : ∀ i, dg 4 k c i < 4 := fun i => dg_lt (by omega)
      have hg : ∀ i, i < k → -3 ≤ gRow w f i ∧ gRow w f i ≤ 3 := fun i hi => chg_b hw (by omega) (by omega)
      by_cases z : (k : Int) ≤ (p : Int)
      · obtain rfl : p = k := by omega
        have hb := si_le (a := fun i => (dg 4 p c i : Int) * gRow w f i) (M := 9) p (fun i hi => by
          have g1 := hg i hi
          have d1 := hd i
          have h3 := Int.mul_le_mul_of_nonneg_left g1.1 (by omega : 0 ≤ (dg 4 p c i : Int))
          have h4 := Int.mul_le_mul_of_nonneg_left g1.2 (by omega : 0 ≤ (dg 4 p c i : Int))
          omega)
        rcases h3 with ⟨rfl, h3⟩ | ⟨rfl, h3⟩
        · by_cases y : si p (fun i => (dg 4 p c i : Int) * gRow w f i) = 0
          · exact ⟨1, Or.inl ⟨rfl, h3.1, h3.2, y⟩, G_i (by omega) (if_i z (G_i (by omega) (el_i (by omega) (G_i (by omega) (if_i y rfl)))))⟩
          · exact ⟨0, Or.inr ⟨rfl, fun q => y q.2.2⟩, G_i (by omega) (if_i z (G_i (by omega) (el_i (by omega) (G_i (by omega) (el_i y rfl)))))⟩
        · exact ⟨0, Or.inr ⟨rfl, fun q => h3 ⟨q.1, q.2.1⟩⟩, G_i (by omega) (if_i z (G_i (by omega) (if_i rfl rfl)))⟩
      · have hp : p < k := by omega
        have D := digit_ok (B := 4) (k := k) (p := p) (c := c) (by omega) (by omega) hp hc.2
        have Cg := change_ok (w := w) (f := f) (p := p) (by omega) (by omega)
        have W := wt6_ok (w := w) (k := 4) (f := (f : Int)) (p := (p : Int)) (by omega) (by omega) (by omega)
        have wb := hw.1 4 (f : Int) (p : Int) (by omega) (by omega) (by omega) (by omega) (by omega) (by omega)
        have dp := hd p
        have ext : (dg 4 k c p = 0 ∨ wt w 4 (f : Int) (p : Int) = 0) → (C ∧ ∀ q : Nat, q < p → (dg 4 k c q = 0 ∨ wt w 4 (f : Int) (q : Int) = 0)) → (C ∧ ∀ q : Nat, q < p + 1 → (dg 4 k c q = 0 ∨ wt w 4 (f : Int) (q : Int) = 0)) := fun h1 h2 => ⟨h2.1, fun q hq => by
          by_cases t : q = p
          · rw [t]; exact h1
          · exact h2.2 q (by omega)⟩
        rcases h3 with ⟨rfl, h3⟩ | ⟨rfl, h3⟩
        · by_cases y : dg 4 k c p = 0
          · obtain ⟨e, b1, b2⟩ := ih (p + 1) 1 (by omega) (by omega) (Or.inl ⟨rfl, ext (Or.inl y) h3⟩)
            exact ⟨e, b1, G_i (by omega) (el_i z (Ob_i D (Ob_i Cg (Bd_i (G_i (by omega) (el_i (by omega) (G_i (by omega) (if_i (by omega) b2))))))))⟩
          · by_cases x : wt w 4 (f : Int) (p : Int) = 0
            · obtain ⟨e, b1, b2⟩ := ih (p + 1) 1 (by omega) (by omega) (Or.inl ⟨rfl, ext (Or.inr x) h3⟩)
              exact ⟨e, b1, G_i (by omega) (el_i z (Ob_i D (Ob_i Cg (Bd_i (G_i (by omega) (el_i (by omega) (G_i (by omega) (el_i (by omega) (Ob_i W (G_i (by omega) (if_i x b2)))))))))))⟩
            · obtain ⟨e, b1, b2⟩ := ih (p + 1) 0 (by omega) (by omega) (Or.inr ⟨rfl, fun q => (q.2 p (by omega)).elim y x⟩)
              exact ⟨e, b1, G_i (by omega) (el_i z (Ob_i D (Ob_i Cg (Bd_i (G_i (by omega) (el_i (by omega) (G_i (by omega) (el_i (by omega) (Ob_i W (G_i (by omega) (el_i x b2)))))))))))⟩
        · obtain ⟨e, b1, b2⟩ := ih (p + 1) 0 (by omega) (by omega) (Or.inr ⟨rfl, fun q => h3 ⟨q.1, fun q' hq => q.2 q' (by omega)⟩⟩)
          exact ⟨e, b1, G_i (by omega) (el_i z (Ob_i D (Ob_i Cg (Bd_i (G_i (by omega) (if_i rfl b2))))))⟩
  have outer : ∀ (fu f : Nat) (d : Int), f ≤ n → n - f < fu → isB d (∀ j : Nat, j < f → (∀ q : Nat, q < k → (dg 4 k c q = 0 ∨ wt w 4 (j : Int) (q : Int) = 0)) ∧ si k (fun i => (dg 4 k c i : Int) * gRow w j i) = 0) → ∃ r, F_X6_isRow_b4 (k : Int) (n : Int) w fu (c : Int) d (f : Int) = some r ∧ isB r (bS 4 k n (gRow w) (adRow n w) c) := by
    intro fu
    induction fu with
    | zero => intro f d h1 h2; exact absurd h2 (by omega)
    | succ fu ih =>
      intro f d h1 h2 h3
      show ∃ r, F_X6_isRow_b4_body (k : Int) (n : Int) w (F_X6_isRow_b4 (k : Int) (n : Int) w fu) (c : Int) d (f : Int) = some r ∧ _
      unfold F_X6_isRow_b4_body
      refine G_e (by omega) ?_
      by_cases z : (n : Int) ≤ (f : Int)
      · refine if_e z (G_e (isB_01 h3) (so_e (isB_iff h3 ?_)))
        obtain rfl : f = n := by omega
        constructor
        · intro h
          refine ⟨hc.1, fun p hp hz => Classical.byContradiction fun y => hz fun j hj => ?_, fun j hj => (h j hj).2⟩
          exact ((h j hj).1 p hp).resolve_left y
        · intro h j hj
          refine ⟨fun q hq => ?_, h.2.2 j hj⟩
          refine Classical.byContradiction fun y => y (Or.inl (h.2.1 q hq (fun t => y (Or.inr (t j hj)))))
      · refine el_e z ?_
        obtain ⟨e, b1, b2⟩ := inner (F_X6_isRow_b4 (k : Int) (n : Int) w fu) (∀ j : Nat, j < f → (∀ q : Nat, q < k → (dg 4 k c q = 0 ∨ wt w 4 (j : Int) (q : Int) = 0)) ∧ si k (fun i => (dg 4 k c i : Int) * gRow w j i) = 0) f (by omega) NN 0 d (Nat.zero_le _) (by have := NN_gt (z := 100) (by omega); omega) (isB_iff h3 ⟨fun q => ⟨q, fun q' h => absurd h (Nat.not_lt_zero q')⟩, fun q => q.1⟩)
        have b2' : F_X6_isRow_b18 (k : Int) (n : Int) w (F_X6_isRow_b4 (k : Int) (n : Int) w fu) NN (c : Int) d (f : Int) 0 0 = F_X6_isRow_b4 (k : Int) (n : Int) w fu (c : Int) e ((f : Int) + 1) := b2
        rw [b2']
        refine ih (f + 1) e (by omega) (by omega) (isB_iff b1 ⟨fun q j hj => ?_, fun q => ⟨fun j hj => q j (by omega), q f (by omega)⟩⟩)
        by_cases t : j = f
        · rw [t]; exact q.2
        · exact q.1 j (by omega)
  unfold F_X6_isRow
  exact outer NN 0 1 (Nat.zero_le _) (by have := NN_gt (z := 100) (by omega); omega) (Or.inl ⟨rfl, fun j hj => absurd hj (Nat.not_lt_zero j)⟩)
def gRound (w : Nat → Int) (j i : Nat) : Int := chg w i j
/-- no firing empties -/
def adRound (n : Nat) (w : Nat → Int) (i : Nat) : Prop := ∀ j : Nat, j < n → wt w 4 (i : Int) (j : Int) = 0
theorem isRound_ok {k n c : Nat} {w : Nat → Int} (hw : wOk w) (hk : k ≤ 8) (hn : n ≤ 6) (hc : 1 ≤ c ∧ c < 2147483648) : ∃ r, F_X6_isRound (c : Int) (n : Int) (k : Int) w = some r ∧ isB r (bS 3 k n (gRound w) (adRound n w) c) := by
  have inner : ∀ (ag4 : Int → Int → Int → Option Int) (C : Prop) (f : Nat), f < n → ∀ (fu p : Nat) (d : Int), p ≤ k → k - p < fu → isB d (C ∧ ∀ q : Nat, q < p → (dg 3 k c q = 0 ∨ wt w 4 (q : Int) (f : Int) = 0)) → ∃ e, isB e (C ∧ (∀ q : Nat, q < k → (dg 3 k c q = 0 ∨ wt w 4 (q : Int) (f : Int) = 0)) ∧ si k (fun i => (dg 3 k c i : Int) * gRound w f i) = 0) ∧ F_X6_isRound_b18 (n : Int) (k : Int) w ag4 fu (c : Int) d (f : Int) (si p (fun i => (dg 3 k c i : Int) * gRound w f i)) (p : Int) = ag4 (c : Int) e ((f : Int) + 1) := by
    intro ag4 C f hf fu
    induction fu with
    | zero => intro p d h1 h2; exact absurd h2 (by omega)
    | succ fu ih =>
      intro p d h1 h2 h3
      show ∃ e, _ ∧ F_X6_isRound_b18_body (n : Int) (k : Int) w ag4 (F_X6_isRound_b18 (n : Int) (k : Int) w ag4 fu) (c : Int) d (f : Int) _ (p : Int) = _
      unfold F_X6_isRound_b18_body
      have hd : ∀ i, dg 3 k c i < 3 := fun i => dg_lt (by omega)
      have hg : ∀ i, i < k → -3 ≤ gRound w f i ∧ gRound w f i ≤ 3 := fun i hi => chg_b hw (by omega) (by omega)
      by_cases z : (k : Int) ≤ (p : Int)
      · obtain rfl : p = k := by omega
        have hb := si_le (a := fun i => (dg 3 p c i : Int) * gRound w f i) (M := 9) p (fun i hi => by
          have g1 := hg i hi
          have d1 := hd i
          have h3 := Int.mul_le_mul_of_nonneg_left g1.1 (by omega : 0 ≤ (dg 3 p c i : Int))
          have h4 := Int.mul_le_mul_of_nonneg_left g1.2 (by omega : 0 ≤ (dg 3 p c i : Int))
          omega)
        rcases h3 with ⟨rfl, h3⟩ | ⟨rfl, h3⟩
        · by_cases y : si p (fun i => (dg 3 p c i : Int) * gRound w f i) = 0
          · exact ⟨1, Or.inl ⟨rfl, h3.1, h3.2, y⟩, G_i (by omega) (if_i z (G_i (by omega) (el_i (by omega) (G_i (by omega) (if_i y rfl)))))⟩
          · exact ⟨0, Or.inr ⟨rfl, fun q => y q.2.2⟩, G_i (by omega) (if_i z (G_i (by omega) (el_i (by omega) (G_i (by omega) (el_i y rfl)))))⟩
        · exact ⟨0, Or.inr ⟨rfl, fun q => h3 ⟨q.1, q.2.1⟩⟩, G_i (by omega) (if_i z (G_i (by omega) (if_i rfl rfl)))⟩
      · have hp : p < k := by omega
        have D := digit_ok (B := 3) (k := k) (p := p) (c := c) (by omega) (by omega) hp hc.2
        have Cg := change_ok (w := w) (f := p) (p := f) (by omega) (by omega)
        have W := wt6_ok (w := w) (k := 4) (f := (p : Int)) (p := (f : Int)) (by omega) (by omega) (by omega)
        have wb := hw.1 4 (p : Int) (f : Int) (by omega) (by omega) (by omega) (by omega) (by omega) (by omega)
        have dp := hd p
        have ext : (dg 3 k c p = 0 ∨ wt w 4 (p : Int) (f : Int) = 0) → (C ∧ ∀ q : Nat, q < p → (dg 3 k c q = 0 ∨ wt w 4 (q : Int) (f : Int) = 0)) → (C ∧ ∀ q : Nat, q < p + 1 → (dg 3 k c q = 0 ∨ wt w 4 (q : Int) (f : Int) = 0)) := fun h1 h2 => ⟨h2.1, fun q hq => by
          by_cases t : q = p
          · rw [t]; exact h1
          · exact h2.2 q (by omega)⟩
        rcases h3 with ⟨rfl, h3⟩ | ⟨rfl, h3⟩
        · by_cases y : dg 3 k c p = 0
          · obtain ⟨e, b1, b2⟩ := ih (p + 1) 1 (by omega) (by omega) (Or.inl ⟨rfl, ext (Or.inl y) h3⟩)
            exact ⟨e, b1, G_i (by omega) (el_i z (Ob_i D (Ob_i Cg (Bd_i (G_i (by omega) (el_i (by omega) (G_i (by omega) (if_i (by omega) b2))))))))⟩
          · by_cases x : wt w 4 (p : Int) (f : Int) = 0
            · obtain ⟨e, b1, b2⟩ := ih (p + 1) 1 (by omega) (by omega) (Or.inl ⟨rfl, ext (Or.inr x) h3⟩)
              exact ⟨e, b1, G_i (by omega) (el_i z (Ob_i D (Ob_i Cg (Bd_i (G_i (by omega) (el_i (by omega) (G_i (by omega) (el_i (by omega) (Ob_i W (G_i (by omega) (if_i x b2)))))))))))⟩
            · obtain ⟨e, b1, b2⟩ := ih (p + 1) 0 (by omega) (by omega) (Or.inr ⟨rfl, fun q => (q.2 p (by omega)).elim y x⟩)
              exact ⟨e, b1, G_i (by omega) (el_i z (Ob_i D (Ob_i Cg (Bd_i (G_i (by omega) (el_i (by omega) (G_i (by omega) (el_i (by omega) (Ob_i W (G_i (by omega) (el_i x b2)))))))))))⟩
        · obtain ⟨e, b1, b2⟩ := ih (p + 1) 0 (by omega) (by omega) (Or.inr ⟨rfl, fun q => h3 ⟨q.1, fun q' hq => q.2 q' (by omega)⟩⟩)
          exact ⟨e, b1, G_i (by omega) (el_i z (Ob_i D (Ob_i Cg (Bd_i (G_i (by omega) (if_i rfl b2))))))⟩
  have outer : ∀ (fu f : Nat) (d : Int), f ≤ n → n - f < fu → isB d (∀ j : Nat, j < f → (∀ q : Nat, q < k → (dg 3 k c q = 0 ∨ wt w 4 (q : Int) (j : Int) = 0)) ∧ si k (fun i => (dg 3 k c i : Int) * gRound w j i) = 0) → ∃ r, F_X6_isRound_b4 (n : Int) (k : Int) w fu (c : Int) d (f : Int) = some r ∧ isB r (bS 3 k n (gRound w) (adRound n w) c) := by
    intro fu
    induction fu with
    | zero => intro f d h1 h2; exact absurd h2 (by omega)
    | succ fu ih =>
      intro f d h1 h2 h3
      show ∃ r, F_X6_isRound_b4_body (n : Int) (k : Int) w (F_X6_isRound_b4 (n : Int) (k : Int) w fu) (c : Int) d (f : Int) = some r ∧ _
      unfold F_X6_isRound_b4_body
      refine G_e (by omega) ?_
      by_cases z : (n : Int) ≤ (f : Int)
      · refine if_e z (G_e (isB_01 h3) (so_e (isB_iff h3 ?_)))
        obtain rfl : f = n := by omega
        constructor
        · intro h
          refine ⟨hc.1, fun p hp hz => Classical.byContradiction fun y => hz fun j hj => ?_, fun j hj => (h j hj).2⟩
          exact ((h j hj).1 p hp).resolve_left y
        · intro h j hj
          refine ⟨fun q hq => ?_, h.2.2 j hj⟩
          refine Classical.byContradiction fun y => y (Or.inl (h.2.1 q hq (fun t => y (Or.inr (t j hj)))))
      · refine el_e z ?_
        obtain ⟨e, b1, b2⟩ := inner (F_X6_isRound_b4 (n : Int) (k : Int) w fu) (∀ j : Nat, j < f → (∀ q : Nat, q < k → (dg 3 k c q = 0 ∨ wt w 4 (q : Int) (j : Int) = 0)) ∧ si k (fun i => (dg 3 k c i : Int) * gRound w j i) = 0) f (by omega) NN 0 d (Nat.zero_le _) (by have := NN_gt (z := 100) (by omega); omega) (isB_iff h3 ⟨fun q => ⟨q, fun q' h => absurd h (Nat.not_lt_zero q')⟩, fun q => q.1⟩)
        have b2' : F_X6_isRound_b18 (n : Int) (k : Int) w (F_X6_isRound_b4 (n : Int) (k : Int) w fu) NN (c : Int) d (f : Int) 0 0 = F_X6_isRound_b4 (n : Int) (k : Int) w fu (c : Int) e ((f : Int) + 1) := b2
        rw [b2']
        refine ih (f + 1) e (by omega) (by omega) (isB_iff b1 ⟨fun q j hj => ?_, fun q => ⟨fun j hj => q j (by omega), q f (by omega)⟩⟩)
        by_cases t : j = f
        · rw [t]; exact q.2
        · exact q.1 j (by omega)
  unfold F_X6_isRound
  exact outer NN 0 1 (Nat.zero_le _) (by have := NN_gt (z := 100) (by omega); omega) (Or.inl ⟨rfl, fun j hj => absurd hj (Nat.not_lt_zero j)⟩)
