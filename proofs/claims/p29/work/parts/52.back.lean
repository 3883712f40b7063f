/-! marks: all that comes to the marked nodes -/
def cnz (f : Nat → Int) : Nat → Int
  | 0 => 0
  | n + 1 => cnz f n + (if f n = 0 then 0 else 1)
theorem cnz_put {f : Nat → Int} {s : Nat} {x : Int} (h : f s = 0) (hx : x ≠ 0) : ∀ n : Nat, cnz (uI f s x) n = cnz f n + (if s < n then 1 else 0)
  | 0 => by simp [cnz]
  | n + 1 => by
    rw [cnz, cnz, cnz_put h hx n]
    by_cases e : n = s
    · subst e
      rw [uI_same, if_neg hx, h, if_pos rfl, if_neg (by omega), if_pos (by omega)]
    · rw [uI_ne _ _ e]
      by_cases q : s < n
      · rw [if_pos q, if_pos (by omega : s < n + 1)]; omega
      · rw [if_neg q, if_neg (by omega : ¬ s < n + 1)]; omega
theorem cnz_le {f : Nat → Int} : ∀ n : Nat, 0 ≤ cnz f n ∧ cnz f n ≤ n
  | 0 => by simp [cnz]
  | n + 1 => by
    have := cnz_le (f := f) n
    rw [cnz]
    split <;> omega
theorem cnz_all {f : Nat → Int} : ∀ n : Nat, cnz f n = n ↔ ∀ s, s < n → f s ≠ 0
  | 0 => ⟨fun _ s hs => absurd hs (by omega), fun _ => rfl⟩
  | n + 1 => by
    have h1 := cnz_le (f := f) n
    have h2 := cnz_all (f := f) n
    rw [cnz]
    constructor
    · intro h s hs
      by_cases c : f n = 0
      · rw [if_pos c] at h; omega
      · rw [if_neg c] at h
        rcases Nat.lt_succ_iff_lt_or_eq.mp hs with q | q
        · exact h2.mp (by omega) s q
        · rw [q]; exact c
    · intro h
      rw [if_neg (h n (by omega)), h2.mpr (fun s hs => h s (by omega))]
      omega
theorem cnz_0 {f : Nat → Int} : ∀ n : Nat, (∀ s, s < n → f s = 0) → cnz f n = 0
  | 0, _ => rfl
  | n + 1, h => by rw [cnz, cnz_0 n (fun s hs => h s (by omega)), if_pos (h n (by omega))]; rfl
theorem cnz_lt {f : Nat → Int} {n s : Nat} (hs : s < n) (h : f s = 0) : cnz f n < n := by
  have h1 := cnz_le (f := f) n
  rcases Int.lt_or_le (cnz f n) n with q | q
  · exact q
  · exact absurd h ((cnz_all n).mp (by omega) s hs)
theorem prv_spec {ld : Nat → Int} {F t : Int} : ∀ E : Nat, (prv ld F t E = -1 ∧ ∀ e : Nat, e < E → ((e % 8 : Nat) : Int) < F → ld e ≠ t) ∨ ∃ e : Nat, prv ld F t E = (e : Int) ∧ e < E ∧ ((e % 8 : Nat) : Int) < F ∧ ld e = t ∧ ∀ e' : Nat, e < e' → e' < E → ((e' % 8 : Nat) : Int) < F → ld e' ≠ t
  | 0 => Or.inl ⟨rfl, fun e he => absurd he (by omega)⟩
  | E + 1 => by
    rw [prv]
    by_cases c : ((E % 8 : Nat) : Int) < F ∧ ld E = t
    · rw [if_pos c]
      exact Or.inr ⟨E, rfl, by omega, c.1, c.2, fun e' h1 h2 => absurd h1 (by omega)⟩
    · rw [if_neg c]
      rcases prv_spec (ld := ld) (F := F) (t := t) E with ⟨h1, h2⟩ | ⟨e, h1, h2, h3, h4, h5⟩
      · refine Or.inl ⟨h1, fun e he hf z => ?_⟩
        rcases Nat.lt_succ_iff_lt_or_eq.mp he with q | q
        · exact h2 e q hf z
        · subst q; exact c ⟨hf, z⟩
      · refine Or.inr ⟨e, h1, by omega, h3, h4, fun e' g1 g2 hf z => ?_⟩
        rcases Nat.lt_succ_iff_lt_or_eq.mp g2 with q | q
        · exact h5 e' g1 q hf z
        · subst q; exact c ⟨hf, z⟩
/-- the least set that holds S and all that leads into it -/
def clo (n F : Int) (ld : Nat → Int) (S : Int → Prop) (x : Int) : Prop :=
  ∀ C : Int → Prop, (∀ y, S y → C y) → (∀ m f : Int, 0 ≤ m → m < n → 0 ≤ f → f < F → ld (8 * m + f).toNat ≠ -1 → C (ld (8 * m + f).toNat) → C m) → C x
/-- marked nodes and the queue of them -/
def MS (n : Int) (q : Int) (mk qu : Nat → Int) : Prop :=
  (∀ x : Nat, x < 300 → mk x = 0 ∨ mk x = 1) ∧ q = cnz mk n.toNat ∧ (∀ i : Int, 0 ≤ i → i < q → 0 ≤ qu i.toNat ∧ qu i.toNat < n ∧ mk (qu i.toNat).toNat ≠ 0) ∧ (∀ x : Int, 0 ≤ x → x < n → mk x.toNat ≠ 0 → ∃ i : Int, 0 ≤ i ∧ i < q ∧ qu i.toNat = x)
theorem unmarkAll_ok {q : Int} {mk : Nat → Int} : ∃ r, F_X1_unmarkAll q mk = some r ∧ (r.1 = 0 ∧ ∀ x : Nat, x < 300 → r.2 x = 0) := by
  have key : ∀ (fu : Nat) (i : Int) (a : Nat → Int), 0 ≤ i → i ≤ 300 → 300 - i < fu → (∀ x : Nat, x < i → a x = 0) → ∃ r, F_X1_unmarkAll_b7 fu i 0 a = some r ∧ (r.1 = 0 ∧ ∀ x : Nat, x < 300 → r.2 x = 0) := by
    intro fu
    induction fu with
    | zero => intro i a h1 h2 h3; exact absurd h3 (by omega)
    | succ fu ih =>
      intro i a h1 h2 h3 h4
      show ∃ r, F_X1_unmarkAll_b7_body (F_X1_unmarkAll_b7 fu) i 0 a = some r ∧ _
      unfold F_X1_unmarkAll_b7_body
      refine G_e (by omega) ?_
      by_cases c : 300 ≤ i
      · exact if_e c (so_e ⟨rfl, fun x hx => h4 x (by omega)⟩)
      · refine el_e c (G_e (by omega) (Bd_e (Bd_e (ih (i + 1) _ (by omega) (by omega) (by omega) (fun x hx => ?_)))))
        by_cases e : x = i.toNat
        · rw [e, uI_same]
        · rw [uI_ne _ _ e]; exact h4 x (by omega)
  unfold F_X1_unmarkAll
  exact key NN 0 mk (by omega) (by omega) (NN_gt (by omega)) (fun x hx => absurd hx (by omega))
theorem mark_ok {n q x : Int} {mk qu : Nat → Int} (h : MS n q mk qu) (hn : 1 ≤ n ∧ n ≤ 300) (hx : 0 ≤ x ∧ x < n) :
    ∃ r, F_X1_mark x q mk qu = some r ∧ (MS n r.1 r.2.1 r.2.2 ∧ r.2.1 x.toNat ≠ 0 ∧ (∀ y : Nat, y ≠ x.toNat → r.2.1 y = mk y) ∧ (∀ y : Nat, mk y ≠ 0 → r.2.1 y ≠ 0) ∧ q ≤ r.1 ∧ ∀ i : Int, 0 ≤ i → i < q → r.2.2 i.toNat = qu i.toNat) := by
  have hq := cnz_le (f := mk) n.toNat
  have hq2 := h.2.1
  have hm := h.1 x.toNat (by omega)
  unfold F_X1_mark
  refine G_e (by omega) (el_e (by omega) (G_e (by omega) (el_e (by omega) (G_e (by omega) ?_))))
  by_cases c : mk x.toNat = 0
  · have hlt := cnz_lt (f := mk) (n := n.toNat) (s := x.toNat) (by omega) c
    refine el_e (by omega) (G_e (by omega) (Bd_e (G_e (by omega) (if_e c (G_e (by omega) (Bd_e (G_e (by omega) (Bd_e (Bd_e (so_e ?_))))))))))
    have hput := cnz_put (f := mk) (s := x.toNat) (x := 1) c (by omega) n.toNat
    rw [if_pos (by omega)] at hput
    refine ⟨⟨fun y hy => ?_, by dsimp only; omega, fun i i1 i2 => ?_, fun y y1 y2 y3 => ?_⟩, ?_, fun y hy => uI_ne _ _ hy, fun y hy => ?_, by dsimp only; omega, fun i i1 i2 => ?_⟩
    · dsimp only
      by_cases e : y = x.toNat
      · rw [e, uI_same]; exact Or.inr rfl
      · rw [uI_ne _ _ e]; exact h.1 y hy
    · dsimp only at i2 ⊢
      by_cases e : i = q
      · rw [e, uI_same, uI_same]; exact ⟨hx.1, hx.2, by omega⟩
      · rw [uI_ne qu _ (by omega)]
        have z := h.2.2.1 i i1 (by omega)
        refine ⟨z.1, z.2.1, ?_⟩
        by_cases e2 : (qu i.toNat).toNat = x.toNat
        · rw [e2, uI_same]; omega
        · rw [uI_ne _ _ e2]; exact z.2.2
    · dsimp only at y3 ⊢
      by_cases e : y = x
      · exact ⟨q, by omega, by omega, by rw [uI_same, e]⟩
      · rw [uI_ne _ _ (by omega)] at y3
        obtain ⟨i, i1, i2, i3⟩ := h.2.2.2 y y1 y2 y3
        exact ⟨i, i1, by omega, by rw [uI_ne _ _ (by omega)]; exact i3⟩
    · dsimp only
      rw [uI_same]; omega
    · dsimp only
      by_cases e : y = x.toNat
      · rw [e, uI_same]; omega
      · rw [uI_ne _ _ e]; exact hy
    · exact uI_ne _ _ (by omega)
  · have fin : ∃ r, some (q, mk, qu) = some r ∧ (MS n r.1 r.2.1 r.2.2 ∧ r.2.1 x.toNat ≠ 0 ∧ (∀ y : Nat, y ≠ x.toNat → r.2.1 y = mk y) ∧ (∀ y : Nat, mk y ≠ 0 → r.2.1 y ≠ 0) ∧ q ≤ r.1 ∧ ∀ i : Int, 0 ≤ i → i < q → r.2.2 i.toNat = qu i.toNat) :=
      so_e ⟨h, c, fun _ _ => rfl, fun _ hy => hy, by dsimp only; omega, fun _ _ _ => rfl⟩
    by_cases c2 : 300 ≤ q
    · exact if_e c2 fin
    · exact el_e c2 (G_e (by omega) (Bd_e (G_e (by omega) (el_e c fin))))
