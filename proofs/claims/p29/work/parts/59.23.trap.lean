/-! traps: the class's passes against the reference's six turns -/
def loS (P : Int) (w : Nat → Int) (f : Int) : Nat := so w 0 f P.toNat ||| so w 4 f P.toNat
def stT (P : Int) (w : Nat → Int) (f : Int) (s : Nat) : Nat := if so w 1 f P.toNat &&& s = 0 then dif s (loS P w f) else s
def tfT (P : Int) (w : Nat → Int) (s : Nat) : Nat → Nat
  | 0 => s
  | f + 1 => stT P w (f : Int) (tfT P w s f)
def itT (P F : Int) (w : Nat → Int) : Nat → Nat → Nat
  | 0, s => s
  | k + 1, s => itT P F w k (tfT P w s F.toNat)
theorem sub_rf (a : Nat) : sub a a := sub_iff.mpr fun _ h => h
theorem stT_sub {P : Int} {w : Nat → Int} {f : Int} {s : Nat} (hs : s < 64) : sub (stT P w f s) s := by
  unfold stT
  split
  · exact dif_sub (by omega)
  · exact sub_rf s
theorem tfT_sub {P : Int} {w : Nat → Int} {s : Nat} (hs : s < 64) : ∀ f : Nat, sub (tfT P w s f) s
  | 0 => sub_rf s
  | f + 1 => sub_tr (stT_sub (by have := sub_le (tfT_sub (P := P) (w := w) hs f); omega)) (tfT_sub hs f)
theorem itT_sub {P F : Int} {w : Nat → Int} : ∀ (k s : Nat), s < 64 → sub (itT P F w k s) s
  | 0, s, _ => sub_rf s
  | k + 1, s, hs => by
    have h := tfT_sub (P := P) (w := w) hs F.toNat
    exact sub_tr (itT_sub k _ (by have := sub_le h; omega)) h
def pcT (a : Nat) : Nat := su 6 (fun p => if a.testBit p = true then 1 else 0)
theorem pcT_lt : ∀ a : Nat, a < 64 → ∀ b : Nat, b < 64 → a &&& b = a → a ≠ b → pcT a < pcT b := by decide +kernel
theorem pcT_le : ∀ P : Nat, P < 7 → ∀ a : Nat, a < 2 ^ P → pcT a ≤ P := by decide +kernel
theorem itT_const {P F : Int} {w : Nat → Int} {s : Nat} (h : tfT P w s F.toNat = s) : ∀ k : Nat, itT P F w k s = s
  | 0 => rfl
  | k + 1 => by rw [itT, h]; exact itT_const h k
theorem itT_fix {P F : Int} {w : Nat → Int} : ∀ (k s : Nat), s < 64 → pcT s ≤ k → ∀ j : Nat, itT P F w (k + j) s = itT P F w k s
  | 0, s, hs, hk, j => by
    have h := tfT_sub (P := P) (w := w) hs F.toNat
    have h2 := sub_le h
    by_cases e : tfT P w s F.toNat = s
    · rw [itT_const e, itT_const e]
    · have := pcT_lt _ (by omega) s hs h e
      omega
  | k + 1, s, hs, hk, j => by
    have h := tfT_sub (P := P) (w := w) hs F.toNat
    have h2 := sub_le h
    by_cases e : tfT P w s F.toNat = s
    · rw [itT_const e, itT_const e]
    · have h3 := pcT_lt _ (by omega) s hs h e
      rw [show k + 1 + j = (k + j) + 1 by omega, itT, itT]
      exact itT_fix k _ (by omega) (by omega) j
/-- as many passes as places are enough -/
theorem itT_6 {P F : Int} {w : Nat → Int} {s : Nat} (hP : 0 ≤ P ∧ P ≤ 6) (hs : s < 2 ^ P.toNat) : itT P F w 6 s = itT P F w P.toNat s := by
  have h1 := p2_64 hP
  have := itT_fix (P := P) (F := F) (w := w) P.toNat s (by omega) (pcT_le P.toNat (by omega) s hs) (6 - P.toNat)
  rw [show P.toNat + (6 - P.toNat) = 6 by omega] at this
  exact this
theorem greatestTrap_ok {P F : Int} {w lo gi : Nat → Int} {s : Nat} (hP : 0 ≤ P ∧ P ≤ 6) (hF : 0 ≤ F ∧ F ≤ 8) (hs : s < 64) (hl : ∀ f : Int, 0 ≤ f → f < F → lo f.toNat = ((loS P w f : Nat) : Int)) (hg : ∀ f : Int, 0 ≤ f → f < F → gi f.toNat = ((so w 1 f P.toNat : Nat) : Int)) :
    F_X4_greatestTrap (s : Int) P F lo gi = some ((itT P F w P.toNat s : Nat) : Int) := by
  have inner : ∀ (ag4 : Int → Int → Option Int) (s : Nat) (l3 : Int), s < 64 → ∀ (fu f : Nat), (f : Int) ≤ F → F - f < fu → F_X4_greatestTrap_b18 P F lo gi ag4 fu ((tfT P w s f : Nat) : Int) l3 (f : Int) = ag4 ((tfT P w s F.toNat : Nat) : Int) (l3 + 1) := by
    intro ag4 s l3 hs fu
    induction fu with
    | zero => intro f h1 h2; exact absurd h2 (by omega)
    | succ fu ih =>
      intro f h1 h2
      show F_X4_greatestTrap_b18_body P F lo gi ag4 (F_X4_greatestTrap_b18 P F lo gi ag4 fu) ((tfT P w s f : Nat) : Int) l3 (f : Int) = _
      unfold F_X4_greatestTrap_b18_body
      refine G_i (by omega) ?_
      by_cases c : F ≤ (f : Int)
      · refine if_i c (Bd_i ?_)
        rw [show F.toNat = f by omega]
      · have hb := sub_le (tfT_sub (P := P) (w := w) hs f)
        have h64 := so_64 (w := w) (k := 1) (f := (f : Int)) hP
        have ha : so w 1 (f : Int) P.toNat &&& tfT P w s f ≤ so w 1 (f : Int) P.toNat := Nat.and_le_left
        have nx := ih (f + 1) (by omega) (by omega)
        rw [show tfT P w s (f + 1) = stT P w (f : Int) (tfT P w s f) from rfl, stT] at nx
        refine el_i c (G_i (by omega) (Bd_i ?_))
        rw [hg (f : Int) (by omega) (by omega), iAnd_n (by omega)]
        refine Bd_i (G_i (by omega) ?_)
        by_cases z : so w 1 (f : Int) P.toNat &&& tfT P w s f = 0
        · rw [if_pos z] at nx
          refine if_i (by omega) (G_i (by omega) (Bd_i ?_))
          rw [hl (f : Int) (by omega) (by omega), iNot_n (by omega)]
          exact nx
        · rw [if_neg z] at nx
          exact el_i (by omega) nx
  have outer : ∀ (fu : Nat) (p : Int) (s : Nat), 0 ≤ p → p ≤ P → P - p < fu → s < 64 → F_X4_greatestTrap_b4 P F lo gi fu (s : Int) p = some ((itT P F w (P - p).toNat s : Nat) : Int) := by
    intro fu
    induction fu with
    | zero => intro p s h1 h2 h3; exact absurd h3 (by omega)
    | succ fu ih =>
      intro p s h1 h2 h3 hs
      show F_X4_greatestTrap_b4_body P F lo gi (F_X4_greatestTrap_b4 P F lo gi fu) (s : Int) p = _
      unfold F_X4_greatestTrap_b4_body
      refine G_i (by omega) ?_
      by_cases c : P ≤ p
      · refine if_i c ?_
        rw [show (P - p).toNat = 0 by omega]
        rfl
      · refine el_i c ((inner _ s p hs NN 0 (by omega) (NN_gt (by omega))).trans ?_)
        have hb := sub_le (tfT_sub (P := P) (w := w) hs F.toNat)
        rw [ih (p + 1) _ (by omega) (by omega) (by omega) (by omega), show (P - p).toNat = (P - (p + 1)).toNat + 1 by omega]
        rfl
  unfold F_X4_greatestTrap
  have := outer NN 0 s (by omega) hP.1 (NN_gt (by omega)) hs
  rw [show P - 0 = P by omega] at this
  exact this
theorem dif_0 {s : Nat} (hs : s < 64) : dif s 0 = s := Nat.eq_of_testBit_eq fun i => by
  rw [dif_bit (by omega), Nat.zero_testBit, Bool.not_false, Bool.and_true]
theorem dif_dif {s a b : Nat} (hs : s < 64) : dif (dif s a) b = dif s (a ||| b) := Nat.eq_of_testBit_eq fun i => by
  have := dif_le (a := s) (b := a)
  rw [dif_bit (by omega), dif_bit (by omega), dif_bit (by omega), Nat.testBit_or, Bool.not_or, Bool.and_assoc]
theorem trapIn_ok {P F : Int} {w : Nat → Int} {s : Nat} (hw : wOk w) (hP : 0 ≤ P ∧ P ≤ 6) (hF : 0 ≤ F ∧ F ≤ 8) (hs : s < 64) :
    F_X6_trapIn (s : Int) P F w = some ((itT P F w 6 s : Nat) : Int) := by
  -- the places of one firing
  have places : ∀ (ag4 : Int → Int → Option Int) (ag13 : Int → Int → Int → Option Int) (s : Nat) (l3 f : Int), s < 64 → 0 ≤ f ∧ f < 8 → ∀ (fu p : Nat), (p : Int) ≤ P → P - p < fu → F_X6_trapIn_b35 P F w ag4 ag13 fu ((dif s (so w 0 f p ||| so w 4 f p) : Nat) : Int) l3 f 0 (p : Int) = ag13 ((dif s (loS P w f) : Nat) : Int) l3 (f + 1) := by
    intro ag4 ag13 s l3 f hs hf fu
    induction fu with
    | zero => intro p h1 h2; exact absurd h2 (by omega)
    | succ fu ih =>
      intro p h1 h2
      show F_X6_trapIn_b35_body P F w ag4 ag13 (F_X6_trapIn_b35 P F w ag4 ag13 fu) _ l3 f 0 (p : Int) = _
      unfold F_X6_trapIn_b35_body
      refine G_i (by omega) ?_
      by_cases c : P ≤ (p : Int)
      · refine if_i c ?_
        unfold loS
        rw [show P.toNat = p by omega]
        rfl
      · have hle := dif_le (a := s) (b := so w 0 f p ||| so w 4 f p)
        have nx := ih (p + 1) (by omega) (by omega)
        rw [so, so] at nx
        have b0 := hw.1 0 f p (by omega) (by omega) hf.1 hf.2 (by omega) (by omega)
        have b4 := hw.1 4 f p (by omega) (by omega) hf.1 hf.2 (by omega) (by omega)
        have out : (0 < wt w 0 f p ∨ 0 < wt w 4 f p) → F_X6_trapIn_b74 P F w ag4 ag13 (F_X6_trapIn_b35 P F w ag4 ag13 fu) l3 f 0 (p : Int) ((dif s (so w 0 f p ||| so w 4 f p) : Nat) : Int) = ag13 ((dif s (loS P w f) : Nat) : Int) l3 (f + 1) := fun h => by
          unfold F_X6_trapIn_b74 F_X6_trapIn_b84
          rw [iShl1 p (by omega), iNot_n (by omega), dif_dif hs]
          have e : so w 0 f p ||| so w 4 f p ||| 2 ^ p = (so w 0 f p ||| if 0 < wt w 0 f p then 2 ^ p else 0) ||| (so w 4 f p ||| if 0 < wt w 4 f p then 2 ^ p else 0) := Nat.eq_of_testBit_eq fun i => by
            by_cases q0 : 0 < wt w 0 f p
            · rw [if_pos q0]
              by_cases q4 : 0 < wt w 4 f p
              · rw [if_pos q4]
                simp only [Nat.testBit_or]
                cases (so w 0 f p).testBit i <;> cases (so w 4 f p).testBit i <;> cases (2 ^ p).testBit i <;> rfl
              · rw [if_neg q4]
                simp only [Nat.testBit_or, Nat.zero_testBit]
                cases (so w 0 f p).testBit i <;> cases (so w 4 f p).testBit i <;> cases (2 ^ p).testBit i <;> rfl
            · rw [if_neg q0, if_pos (h.resolve_left q0)]
              simp only [Nat.testBit_or, Nat.zero_testBit]
              cases (so w 0 f p).testBit i <;> cases (so w 4 f p).testBit i <;> cases (2 ^ p).testBit i <;> rfl
          rw [e]
          exact nx
        refine el_i c (G_i (by omega) (if_i rfl (Ob_i (wt6_ok (by omega) hf (by omega)) (G_i (by omega) ?_))))
        by_cases q0 : 0 < wt w 0 f p
        · exact if_i q0 (out (Or.inl q0))
        · refine el_i q0 (Ob_i (wt6_ok (by omega) hf (by omega)) (G_i (by omega) ?_))
          by_cases q4 : wt w 4 f p ≤ 0
          · refine if_i q4 ?_
            unfold F_X6_trapIn_b84
            rw [if_neg q0, if_neg (by omega), Nat.or_zero, Nat.or_zero] at nx
            rw [iAnd_m1 (by omega)]
            exact nx
          · exact el_i q4 (out (Or.inr (by omega)))
  have turn : ∀ (ag4 : Int → Int → Option Int) (s : Nat) (l3 : Int), s < 64 → ∀ (fu f : Nat), (f : Int) ≤ F → F - f < fu → F_X6_trapIn_b13 P F w ag4 fu ((tfT P w s f : Nat) : Int) l3 (f : Int) = ag4 ((tfT P w s F.toNat : Nat) : Int) (l3 + 1) := by
    intro ag4 s l3 hs fu
    induction fu with
    | zero => intro f h1 h2; exact absurd h2 (by omega)
    | succ fu ih =>
      intro f h1 h2
      show F_X6_trapIn_b13_body P F w ag4 (F_X6_trapIn_b13 P F w ag4 fu) ((tfT P w s f : Nat) : Int) l3 (f : Int) = _
      unfold F_X6_trapIn_b13_body
      refine G_i (by omega) ?_
      by_cases c : F ≤ (f : Int)
      · refine if_i c (Bd_i ?_)
        rw [show F.toNat = f by omega]
      · have hb := sub_le (tfT_sub (P := P) (w := w) hs f)
        have hf : 0 ≤ (f : Int) ∧ (f : Int) < 8 := by omega
        have nx := ih (f + 1) (by omega) (by omega)
        rw [show tfT P w s (f + 1) = stT P w (f : Int) (tfT P w s f) from rfl, stT] at nx
        obtain ⟨r, u1, u2⟩ := touches_ok (s := tfT P w s f) (k := 1) hP (by omega) hf hw (by omega)
        refine el_i c (Ob_i u1 ?_)
        rcases u2 with ⟨rfl, u2⟩ | ⟨rfl, u2⟩
        · rw [if_neg u2] at nx
          obtain ⟨k, hk⟩ : ∃ k, NN = k + 1 := ⟨NN - 1, by have := NN_gt (z := 1) (by omega); omega⟩
          rw [hk]
          show F_X6_trapIn_b35_body P F w ag4 (F_X6_trapIn_b13 P F w ag4 fu) (F_X6_trapIn_b35 P F w ag4 (F_X6_trapIn_b13 P F w ag4 fu) k) _ l3 (f : Int) 1 0 = _
          unfold F_X6_trapIn_b35_body
          refine G_i (by omega) ?_
          by_cases z : P ≤ 0
          · exact if_i z nx
          · exact el_i z (G_i (by omega) (el_i (by omega) nx))
        · rw [if_pos (Decidable.byContradiction u2)] at nx
          have pl := places ag4 (F_X6_trapIn_b13 P F w ag4 fu) (tfT P w s f) l3 (f : Int) (by omega) hf NN 0 (by omega) (NN_gt (by omega))
          rw [so, so, Nat.or_zero, dif_0 (by omega)] at pl
          exact pl.trans nx
  have outer : ∀ (fu : Nat) (p : Int) (s : Nat), 0 ≤ p → p ≤ 6 → 6 - p < fu → s < 64 → F_X6_trapIn_b4 P F w fu (s : Int) p = some ((itT P F w (6 - p).toNat s : Nat) : Int) := by
    intro fu
    induction fu with
    | zero => intro p s h1 h2 h3; exact absurd h3 (by omega)
    | succ fu ih =>
      intro p s h1 h2 h3 hs
      show F_X6_trapIn_b4_body P F w (F_X6_trapIn_b4 P F w fu) (s : Int) p = _
      unfold F_X6_trapIn_b4_body
      refine G_i (by omega) ?_
      by_cases c : 6 ≤ p
      · refine if_i c ?_
        rw [show (6 - p).toNat = 0 by omega]
        rfl
      · refine el_i c ((turn _ s p hs NN 0 (by omega) (NN_gt (by omega))).trans ?_)
        have hb := sub_le (tfT_sub (P := P) (w := w) hs F.toNat)
        rw [ih (p + 1) _ (by omega) (by omega) (by omega) (by omega), show (6 - p).toNat = (6 - (p + 1)).toNat + 1 by omega]
        rfl
  unfold F_X6_trapIn
  exact outer NN 0 s (by omega) (by omega) (NN_gt (by omega)) hs
