/-! numbers: steps of a program, one by one -/
theorem G_i {α : Type} {c : Prop} [Decidable c] {k r : Option α} (hc : c) (h : k = r) : G c k = r := by unfold G; rw [if_pos hc]; exact h
theorem Bd_i {α β : Type} {x : α} {k : α → β} {r : β} (h : k x = r) : Bd x k = r := h
theorem Ob_i {α β : Type} {x : Option α} {k : α → Option β} {y : α} {r : Option β} (hx : x = some y) (h : k y = r) : Ob x k = r := by rw [hx]; exact h
theorem if_i {α : Type} {c : Prop} [Decidable c] {a b r : α} (hc : c) (h : a = r) : (if c then a else b) = r := by rw [if_pos hc]; exact h
theorem el_i {α : Type} {c : Prop} [Decidable c] {a b r : α} (hc : ¬ c) (h : b = r) : (if c then a else b) = r := by rw [if_neg hc]; exact h
/-- the same with an answer that is only known to be there -/
theorem G_e {α : Type} {c : Prop} [Decidable c] {k : Option α} {P : α → Prop} (hc : c) (h : ∃ r, k = some r ∧ P r) : ∃ r, G c k = some r ∧ P r := by unfold G; rw [if_pos hc]; exact h
theorem Bd_e {α β : Type} {x : α} {k : α → Option β} {P : β → Prop} (h : ∃ r, k x = some r ∧ P r) : ∃ r, Bd x k = some r ∧ P r := h
theorem Ob_e {α β : Type} {x : Option α} {k : α → Option β} {y : α} {P : β → Prop} (hx : x = some y) (h : ∃ r, k y = some r ∧ P r) : ∃ r, Ob x k = some r ∧ P r := by rw [hx]; exact h
theorem if_e {α : Type} {c : Prop} [Decidable c] {a b : Option α} {P : α → Prop} (hc : c) (h : ∃ r, a = some r ∧ P r) : ∃ r, (if c then a else b) = some r ∧ P r := by rw [if_pos hc]; exact h
theorem el_e {α : Type} {c : Prop} [Decidable c] {a b : Option α} {P : α → Prop} (hc : ¬ c) (h : ∃ r, b = some r ∧ P r) : ∃ r, (if c then a else b) = some r ∧ P r := by rw [if_neg hc]; exact h
theorem so_e {α : Type} {x : α} {P : α → Prop} (h : P x) : ∃ r, some x = some r ∧ P r := ⟨x, rfl, h⟩
theorem NN_gt {z : Int} (h : z ≤ 1000000000) : z < (NN : Int) := by unfold NN; omega
def isB (r : Int) (C : Prop) : Prop := (r = 1 ∧ C) ∨ (r = 0 ∧ ¬ C)
theorem isB_01 {r : Int} {C : Prop} (h : isB r C) : r = 0 ∨ r = 1 := h.elim (fun q => Or.inr q.1) (fun q => Or.inl q.1)
theorem isB_iff {r : Int} {C D : Prop} (h : isB r C) (e : C ↔ D) : isB r D := h.elim (fun q => Or.inl ⟨q.1, e.mp q.2⟩) (fun q => Or.inr ⟨q.1, fun z => q.2 (e.mpr z)⟩)
theorem uI_same {α : Type} (f : Nat → α) (k : Nat) (x : α) : uI f k x k = x := if_pos rfl
theorem uI_ne {α : Type} (f : Nat → α) {k j : Nat} (x : α) (h : j ≠ k) : uI f k x j = f j := if_neg h
/-! weights -/
def wt (w : Nat → Int) (k f p : Int) : Int := w ((k * 8 + f) * 6 + p).toNat
theorem wt_6 (w : Nat → Int) (k f p : Int) : w (48 * k + 6 * f + p).toNat = wt w k f p := by
  unfold wt
  congr 2
  omega
/-- the weights' bounds -/
def wOk (w : Nat → Int) : Prop := (∀ k f p : Int, 0 ≤ k → k < 5 → 0 ≤ f → f < 8 → 0 ≤ p → p < 6 → 0 ≤ wt w k f p ∧ wt w k f p ≤ 3) ∧ ∀ f p : Int, 0 ≤ f → f < 8 → 0 ≤ p → p < 6 → wt w 4 f p ≤ 1
theorem wt3_ok {w : Nat → Int} {k f p : Int} (hk : 0 ≤ k ∧ k < 5) (hf : 0 ≤ f ∧ f < 8) (hp : 0 ≤ p ∧ p < 6) : F_X3_weight k f p w = some (wt w k f p) := by
  unfold F_X3_weight
  (repeat (first | (with_reducible refine Bd_i ?_) | (with_reducible refine G_i ?_ ?_; · omega) | (with_reducible refine if_i ?_ ?_; · omega) | (with_reducible refine el_i ?_ ?_; · omega)))
  rfl
theorem wt6_ok {w : Nat → Int} {k f p : Int} (hk : 0 ≤ k ∧ k < 5) (hf : 0 ≤ f ∧ f < 8) (hp : 0 ≤ p ∧ p < 6) : F_X6_weight k f p w = some (wt w k f p) := by
  unfold F_X6_weight
  (repeat (first | (with_reducible refine Bd_i ?_) | (with_reducible refine G_i ?_ ?_; · omega) | (with_reducible refine if_i ?_ ?_; · omega) | (with_reducible refine el_i ?_ ?_; · omega)))
  exact congrArg some (wt_6 w k f p)
/-! the reference's small methods -/
theorem in_ok {x a b : Int} (hx : inR x) (ha : inR a) (hb : inR b) : ∃ r, F_X6_in x a b = some r ∧ isB r (a ≤ x ∧ x ≤ b) := by
  unfold F_X6_in F_X6_in_b14
  refine G_e ⟨hx, ha⟩ ?_
  by_cases h1 : x < a
  · refine if_e h1 ?_
    (repeat (first | (with_reducible refine Bd_e ?_) | (with_reducible refine G_e ?_ ?_; · omega) | (with_reducible refine if_e ?_ ?_; · omega) | (with_reducible refine el_e ?_ ?_; · omega)))
    exact so_e (Or.inr ⟨rfl, by omega⟩)
  · refine el_e h1 ?_
    refine G_e ⟨hx, hb⟩ ?_
    by_cases h2 : b < x
    · refine if_e h2 ?_
      (repeat (first | (with_reducible refine Bd_e ?_) | (with_reducible refine G_e ?_ ?_; · omega) | (with_reducible refine if_e ?_ ?_; · omega) | (with_reducible refine el_e ?_ ?_; · omega)))
      exact so_e (Or.inr ⟨rfl, by omega⟩)
    · refine el_e h2 ?_
      (repeat (first | (with_reducible refine Bd_e ?_) | (with_reducible refine G_e ?_ ?_; · omega) | (with_reducible refine if_e ?_ ?_; · omega) | (with_reducible refine el_e ?_ ?_; · omega)))
      exact so_e (Or.inl ⟨rfl, by omega⟩)
theorem isPlace_ok {x P : Int} (hx : inR x) (hP : 0 ≤ P ∧ P ≤ 6) : ∃ r, F_X6_isPlace x P = some r ∧ isB r (0 ≤ x ∧ x < P) := by
  unfold F_X6_isPlace
  obtain ⟨r, h1, h2⟩ := in_ok (x := x) (a := 0) (b := P - 1) hx (by omega) (by omega)
  refine Ob_e h1 ?_
  refine G_e (isB_01 h2) (so_e (isB_iff h2 ⟨fun h => by omega, fun h => by omega⟩))
theorem isFiring_ok {x P : Int} (hx : inR x) (hP : 0 ≤ P ∧ P ≤ 8) : ∃ r, F_X6_isFiring x P = some r ∧ isB r (0 ≤ x ∧ x < P) := by
  unfold F_X6_isFiring
  obtain ⟨r, h1, h2⟩ := in_ok (x := x) (a := 0) (b := P - 1) hx (by omega) (by omega)
  refine Ob_e h1 ?_
  refine G_e (isB_01 h2) (so_e (isB_iff h2 ⟨fun h => by omega, fun h => by omega⟩))
theorem goesWell_0 {t : Int} : F_X6_goesWell 0 t = some (1, 0) := by
  unfold F_X6_goesWell
  (repeat (first | (with_reducible refine Bd_i ?_) | (with_reducible refine G_i ?_ ?_; · omega) | (with_reducible refine if_i ?_ ?_; · omega) | (with_reducible refine el_i ?_ ?_; · omega)))
  rfl
theorem goesWell_n {s t : Int} (h : inR s) (h0 : s ≠ 0) : F_X6_goesWell s t = some (0, s) := by
  unfold F_X6_goesWell
  (repeat (first | (with_reducible refine Bd_i ?_) | (with_reducible refine G_i ?_ ?_; · omega) | (with_reducible refine if_i ?_ ?_; · omega) | (with_reducible refine el_i ?_ ?_; · omega)))
  rfl
/-- what a place has behind a firing -/
def aft (w : Nat → Int) (t : Int → Int) (f p : Int) : Int := (if wt w 4 f p = 1 then 0 else t p - wt w 0 f p) + wt w 1 f p
def okp (w : Nat → Int) (t : Int → Int) (f p : Int) : Prop := wt w 0 f p ≤ t p ∧ wt w 2 f p ≤ t p ∧ (wt w 3 f p = 0 ∨ t p < wt w 3 f p) ∧ aft w t f p ≤ 99
def can (P : Int) (w : Nat → Int) (t : Int → Int) (f : Int) : Prop := ∀ p : Int, 0 ≤ p → p < P → okp w t f p
def row (marks : Nat → Int) (m : Int) : Int → Int := fun p => marks (6 * m + p).toNat
theorem after_ok {w : Nat → Int} {t : Int → Int} {x f p : Int} (hw : wOk w) (ht : t p = x) (hf : 0 ≤ f ∧ f < 8) (hp : 0 ≤ p ∧ p < 6) : F_X6_after x f p w = some (aft w t f p) := by
  have h4 := hw.1 4 f p (by omega) (by omega) hf.1 hf.2 hp.1 hp.2
  unfold F_X6_after F_X6_after_b24
  refine Ob_i (wt6_ok (by omega) hf hp) ?_
  refine G_i (by omega) ?_
  unfold aft
  rw [ht]
  by_cases h : wt w 4 f p = 1
  · refine if_i h ?_
    refine Ob_i (wt6_ok (by omega) hf hp) ?_
    rw [if_pos h]
  · refine el_i h ?_
    refine Ob_i (wt6_ok (by omega) hf hp) ?_
    refine Ob_i (wt6_ok (by omega) hf hp) ?_
    rw [if_neg h]
/-- the bounds of a marking's numbers -/
def tOk (P : Int) (t : Int → Int) : Prop := ∀ p : Int, 0 ≤ p → p < P → 0 ≤ t p ∧ t p ≤ 99
theorem canIn_ok {P : Int} {w marks : Nat → Int} {m f : Int} (hP : 0 ≤ P ∧ P ≤ 6) (hw : wOk w) (hm : 0 ≤ m ∧ m ≤ 300) (hf : 0 ≤ f ∧ f < 8) (ht : tOk P (row marks m)) : ∃ r, F_X6_canIn m f P w marks = some r ∧ isB r (can P w (row marks m) f) := by
  have key : ∀ (n : Nat) (d p : Int), 0 ≤ p → p ≤ P → P - p < n → isB d (∀ q : Int, 0 ≤ q → q < p → okp w (row marks m) f q) → ∃ r, F_X6_canIn_b5 P w marks n m f d p = some r ∧ isB r (can P w (row marks m) f) := by
    intro n
    induction n with
    | zero => intro d p h1 h2 h3; exact absurd h3 (by omega)
    | succ n ih =>
      intro d p h1 h2 h3 hd
      show ∃ r, F_X6_canIn_b5_body P w marks (F_X6_canIn_b5 P w marks n) m f d p = some r ∧ _
      unfold F_X6_canIn_b5_body
      refine G_e (by omega) ?_
      by_cases hp : P ≤ p
      · refine if_e hp ?_
        refine G_e (isB_01 hd) (so_e (isB_iff hd ?_))
        obtain rfl : p = P := by omega
        exact Iff.rfl
      · refine el_e hp ?_
        have hp6 : 0 ≤ p ∧ p < 6 := by omega
        have w0 := hw.1 0 f p (by omega) (by omega) hf.1 hf.2 hp6.1 hp6.2
        have w1 := hw.1 1 f p (by omega) (by omega) hf.1 hf.2 hp6.1 hp6.2
        have w2 := hw.1 2 f p (by omega) (by omega) hf.1 hf.2 hp6.1 hp6.2
        have w3 := hw.1 3 f p (by omega) (by omega) hf.1 hf.2 hp6.1 hp6.2
        have t0 := ht p h1 (by omega)
        have go : ∀ d' : Int, isB d' (∀ q : Int, 0 ≤ q → q < p + 1 → okp w (row marks m) f q) → ∃ r, F_X6_canIn_b99 P w marks (F_X6_canIn_b5 P w marks n) m f p d' = some r ∧ isB r (can P w (row marks m) f) := by
          intro d' hd'
          exact ih d' (p + 1) (by omega) (by omega) (by omega) hd'
        have no : ¬ (∀ q : Int, 0 ≤ q → q < p + 1 → okp w (row marks m) f q) → ∃ r, F_X6_canIn_b98 P w marks (F_X6_canIn_b5 P w marks n) m f p = some r ∧ isB r (can P w (row marks m) f) := fun h => go 0 (Or.inr ⟨rfl, h⟩)
        have nop : ¬ okp w (row marks m) f p → ∃ r, F_X6_canIn_b98 P w marks (F_X6_canIn_b5 P w marks n) m f p = some r ∧ isB r (can P w (row marks m) f) := fun h => no (fun z => h (z p h1 (by omega)))
        refine Bd_e (G_e (by omega) (Bd_e ?_))
        show ∃ r, Ob _ (fun r7 => _) = some r ∧ _
        refine Ob_e (wt6_ok (by omega) hf hp6) ?_
        have e9 : marks (6 * m + p).toNat = row marks m p := rfl
        rw [e9]
        generalize hx : row marks m p = x at t0 ⊢
        rcases hd with ⟨rfl, hd⟩ | ⟨rfl, hd⟩
        · refine G_e (by omega) (el_e (by omega) ?_)
          refine Ob_e (wt6_ok (by omega) hf hp6) ?_
          refine G_e (by omega) ?_
          by_cases c0 : x < wt w 0 f p
          · exact if_e c0 (nop (fun z => by have := z.1; omega))
          refine el_e c0 ?_
          refine Ob_e (wt6_ok (by omega) hf hp6) ?_
          refine G_e (by omega) ?_
          by_cases c2 : x < wt w 2 f p
          · exact if_e c2 (nop (fun z => by have := z.2.1; omega))
          refine el_e c2 ?_
          refine G_e (by omega) ?_
          have fin : (wt w 3 f p = 0 ∨ x < wt w 3 f p) → ∃ r, F_X6_canIn_b80 P w marks (F_X6_canIn_b5 P w marks n) m f p x = some r ∧ isB r (can P w (row marks m) f) := by
            intro c3
            unfold F_X6_canIn_b80
            refine Ob_e (after_ok (t := row marks m) hw hx hf hp6) ?_
            have hb : 0 ≤ aft w (row marks m) f p ∧ aft w (row marks m) f p ≤ 200 := by
              unfold aft
              rw [hx]
              split <;> omega
            refine G_e (by omega) ?_
            by_cases c4 : 99 < aft w (row marks m) f p
            · exact if_e c4 (nop (fun z => by have := z.2.2.2; omega))
            · refine el_e c4 (go 1 (Or.inl ⟨rfl, fun q h5 h6 => ?_⟩))
              by_cases hq : q = p
              · subst hq
                exact ⟨by omega, by omega, by rw [hx]; exact c3, by omega⟩
              · exact hd q h5 (by omega)
          by_cases c3 : wt w 3 f p = 0
          · exact if_e c3 (fin (Or.inl c3))
          · refine el_e c3 ?_
            refine G_e (by omega) ?_
            by_cases c5 : wt w 3 f p ≤ x
            · exact if_e c5 (nop (fun z => by have := z.2.2.1; omega))
            · exact el_e c5 (fin (Or.inr (by omega)))
        · refine G_e (by omega) (if_e rfl (no (fun z => hd (fun q h5 h6 => z q h5 (by omega)))))
  exact key NN 1 0 (by omega) hP.1 (NN_gt (by omega)) (Or.inl ⟨rfl, fun q h1 h2 => absurd h2 (by omega)⟩)
