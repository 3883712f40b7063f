/-! what the calls answer, in words of the search -/
theorem in_c {x a b : Int} (hx : inR x) (ha : inR a) (hb : inR b) (h : a ≤ x ∧ x ≤ b) : F_X6_in x a b = some 1 := by
  obtain ⟨r, h1, h2⟩ := in_ok hx ha hb
  rcases h2 with ⟨rfl, -⟩ | ⟨-, h2⟩
  · exact h1
  · exact absurd h h2
theorem isPlace_c {x P : Int} (hP : 0 ≤ P ∧ P ≤ 6) (h : 0 ≤ x ∧ x < P) : F_X6_isPlace x P = some 1 := by
  obtain ⟨r, h1, h2⟩ := isPlace_ok (x := x) (by omega) hP
  rcases h2 with ⟨rfl, -⟩ | ⟨-, h2⟩
  · exact h1
  · exact absurd h h2
theorem isPlace_n {x P : Int} (hx : inR x) (hP : 0 ≤ P ∧ P ≤ 6) (h : ¬ (0 ≤ x ∧ x < P)) : F_X6_isPlace x P = some 0 := by
  obtain ⟨r, h1, h2⟩ := isPlace_ok (x := x) hx hP
  rcases h2 with ⟨-, h2⟩ | ⟨rfl, -⟩
  · exact absurd h2 h
  · exact h1
theorem isFiring_c {x F : Int} (hF : 0 ≤ F ∧ F ≤ 8) (h : 0 ≤ x ∧ x < F) : F_X6_isFiring x F = some 1 := by
  obtain ⟨r, h1, h2⟩ := isFiring_ok (x := x) (by omega) hF
  rcases h2 with ⟨rfl, -⟩ | ⟨-, h2⟩
  · exact h1
  · exact absurd h h2
/-- the search from now on, and what it says -/
def GQ (P F : Int) (tok w : Nat → Int) (q : Int × (Nat → Int) × (Nat → Int) × (Nat → Int) × (Nat → Int)) : Prop := F_X6_findAll P F tok w zf zf zf zf = some q ∧ BR P F w tok q
theorem GQ_of {P F : Int} {w tok : Nat → Int} (hw : wOk w) (hP : 0 ≤ P ∧ P ≤ 6) (hF : 0 ≤ F ∧ F ≤ 8) (ht : tOk P (tk tok)) : ∃ q, GQ P F tok w q := bfs hw hP hF ht zf zf zf zf
theorem GQ_in {P F : Int} {w tok : Nat → Int} {q : Int × (Nat → Int) × (Nat → Int) × (Nat → Int) × (Nat → Int)} (h : GQ P F tok w q) : inR q.1 := by
  rcases h.2 with ⟨a, -⟩ | ⟨-, a⟩
  · omega
  · have := a.1.1
    omega
theorem BF_ldOk {P F n : Int} {w tok mk wh by_ ld : Nat → Int} (h : BF P F w tok n (8 * n) mk wh by_ ld) (hF : F ≤ 8) : ldOk n F ld := fun m f m1 m2 f1 f2 => by
  obtain ⟨a, b⟩ := h.2.2.2.2 m f m1 m2 f1 f2 (by omega)
  by_cases c : can P w (row mk m) f
  · have := (a c).1
    omega
  · rw [b c]
    have := h.1.1
    omega
theorem v_graph {P F D L x : Int} {tok w lg : Nat → Int} {q : Int × (Nat → Int) × (Nat → Int) × (Nat → Int) × (Nat → Int)} (hF : 0 ≤ F ∧ F ≤ 8) (h : GQ P F tok w q) (hx : 0 ≤ x ∧ x ≤ 3) :
    ∃ v, dx_graph x (P, F, D, L, tok, w, lg) = some (v, (P, F, D, L, tok, w, lg)) ∧ ((q.1 = -1 ∧ v = -1) ∨ (q.1 ≠ -1 ∧ (x = 0 → v = q.1) ∧ (x = 1 → v = cntE F q.2.2.2.2 (8 * q.1).toNat) ∧ (x = 2 → v = endsE F q.2.2.2.2 q.1.toNat))) := by
  have hr := GQ_in h
  obtain ⟨qn, qm, qw, qb, ql⟩ := q
  obtain ⟨hq, hB⟩ := h
  dsimp only at hr
  have M : ∀ (v : Int) (co : Nat → Int), ((qn = -1 ∨ x = 0) ∧ v = qn ∧ co = zf) ∨ (qn ≠ -1 ∧ x ≠ 0 ∧ F_X6_graph_b47 P F tok w NN x qn 0 0 0 0 qm qw qb ql zf = some (v, 0, qm, qw, qb, ql, co)) → dx_graph x (P, F, D, L, tok, w, lg) = some (v, (P, F, D, L, tok, w, lg)) := fun v co hv => by
    unfold dx_graph F_X6_graph F_X6_graph_b15 F_X6_graph_b37
    refine Ob_i (y := (v, 0, qm, qw, qb, ql, co)) (Ob_i (in_c (by omega) (by omega) (by omega) (by omega)) (G_i (by omega) (el_i (by omega) (Ob_i goesWell_0 (G_i (by omega) (el_i (by omega) (Ob_i hq (G_i ⟨hr, by omega⟩ ?_)))))))) (G_i rfl rfl)
    rcases hv with ⟨h1, rfl, rfl⟩ | ⟨h1, h2, h3⟩
    · by_cases e : v = -1
      · exact if_i e rfl
      · exact el_i e (G_i (by omega) (if_i (h1.resolve_left e) rfl))
    · exact el_i h1 (G_i (by omega) (el_i h2 h3))
  rcases hB with ⟨a, -⟩ | ⟨a, b⟩
  · exact ⟨qn, M qn zf (Or.inl ⟨Or.inl a, rfl, rfl⟩), Or.inl ⟨a, a⟩⟩
  · dsimp only at a b
    by_cases x0 : x = 0
    · exact ⟨qn, M qn zf (Or.inl ⟨Or.inr x0, rfl, rfl⟩), Or.inr ⟨a, fun _ => rfl, fun z => absurd z (by omega), fun z => absurd z (by omega)⟩⟩
    · obtain ⟨⟨v, r2⟩, m1, ⟨co', m2⟩, m3, m4, -⟩ := graphAll_ok (P := P) (th := 0) (tok := tok) (w := w) (mk := qm) (wh := qw) (by_ := qb) (co := zf) (x := x) (BF_ldOk b hF.2) b.1.1 hF (by omega)
      dsimp only at m2 m3 m4
      subst m2
      exact ⟨v, M v co' (Or.inr ⟨a, x0, m1⟩), Or.inr ⟨a, fun z => absurd z x0, m3, m4⟩⟩
theorem v_marking {P F D L : Int} {tok w lg : Nat → Int} {q : Int × (Nat → Int) × (Nat → Int) × (Nat → Int) × (Nat → Int)} (hP : 1 ≤ P ∧ P ≤ 6) (h : GQ P F tok w q) (hn : q.1 ≠ -1) : dx_marking 0 0 (P, F, D, L, tok, w, lg) = some (tok 0, (P, F, D, L, tok, w, lg)) := by
  have hr := GQ_in h
  obtain ⟨qn, qm, qw, qb, ql⟩ := q
  obtain ⟨hq, hB⟩ := h
  dsimp only at hr hn
  rcases hB with ⟨a, -⟩ | ⟨-, b⟩
  · exact absurd a hn
  · dsimp only at b
    have h1 := b.1.1
    have e : qm (0 : Int).toNat = tok 0 := b.1.2 0 (by omega) (by omega)
    unfold dx_marking F_X6_marking F_X6_marking_b24
    refine Ob_i (y := (tok 0, 0, qm, qw, qb, ql)) (Ob_i (isPlace_c (by omega) (by omega)) (G_i (by omega) (el_i (by omega) (G_i (by omega) (el_i (by omega) (Ob_i goesWell_0 (G_i (by omega) (el_i (by omega) (Ob_i hq (G_i ⟨by omega, hr⟩ (el_i (by dsimp only; omega) (Bd_i (G_i (by omega) (Bd_i ?_)))))))))))))) (G_i rfl rfl)
    show some (qm (6 * 0 + 0 : Int).toNat, _) = _
    rw [show (6 * 0 + 0 : Int) = 0 from rfl, e]
theorem v_tokens {P F D L x : Int} {tok w lg : Nat → Int} (hP : 0 ≤ P ∧ P ≤ 6) (hx : 0 ≤ x ∧ x < P) : dx_tokens x (P, F, D, L, tok, w, lg) = some (tok x.toNat, (P, F, D, L, tok, w, lg)) := by
  unfold dx_tokens F_X6_tokens F_X6_tokens_b14
  exact Ob_i (y := (tok x.toNat, 0)) (Ob_i (isPlace_c hP hx) (G_i (by omega) (el_i (by omega) (Ob_i goesWell_0 (G_i (by omega) (el_i (by omega) (G_i (by omega) (Bd_i rfl)))))))) (G_i rfl rfl)
theorem most_ok {p n : Int} {mk : Nat → Int} (hp : 0 ≤ p ∧ p < 6) (hn : 1 ≤ n ∧ n ≤ 300) (hr : ∀ m : Int, 0 ≤ m → m < n → 0 ≤ row mk m p ∧ row mk m p ≤ 99) : ∃ v, F_X6_mostOf p n mk = some v ∧ ((0 ≤ v ∧ v ≤ 99) ∧ (∀ m : Int, 0 ≤ m → m < n → row mk m p ≤ v) ∧ ∃ m : Int, (0 ≤ m ∧ m < n) ∧ row mk m p = v) := by
  have key : ∀ (fu : Nat) (b k : Int), 0 ≤ k → k ≤ n → n - k < fu → (-1 ≤ b ∧ b ≤ 99) → (∀ m : Int, 0 ≤ m → m < k → row mk m p ≤ b) → ((k = 0 ∧ b = -1) ∨ ∃ m : Int, (0 ≤ m ∧ m < k) ∧ row mk m p = b) → ∃ v, F_X6_mostOf_b5 mk fu p n b k = some v ∧ ((0 ≤ v ∧ v ≤ 99) ∧ (∀ m : Int, 0 ≤ m → m < n → row mk m p ≤ v) ∧ ∃ m : Int, (0 ≤ m ∧ m < n) ∧ row mk m p = v) := by
    intro fu
    induction fu with
    | zero => intro b k h1 h2 h3; exact absurd h3 (by omega)
    | succ fu ih =>
      intro b k h1 h2 h3 h4 h5 h6
      show ∃ v, F_X6_mostOf_b5_body mk (F_X6_mostOf_b5 mk fu) p n b k = some v ∧ _
      unfold F_X6_mostOf_b5_body F_X6_mostOf_b43
      refine G_e (by omega) ?_
      by_cases c : n ≤ k
      · obtain rfl : n = k := by omega
        rcases h6 with h6 | ⟨m, m1, m2⟩
        · exact absurd h6.1 (by omega)
        · have := hr m m1.1 m1.2
          exact if_e c (so_e ⟨by omega, h5, m, m1, m2⟩)
      · have hk := hr k h1 (by omega)
        have e1 : mk (6 * k + p).toNat = row mk k p := rfl
        refine el_e c (Bd_e (G_e (by omega) (Bd_e ?_)))
        rw [e1]
        refine G_e (by omega) ?_
        by_cases y : row mk k p ≤ b
        · refine if_e y (Bd_e (ih b (k + 1) (by omega) (by omega) (by omega) h4 (fun m a d => ?_) (Or.inr ?_)))
          · by_cases t : m = k
            · rw [t]; exact y
            · exact h5 m a (by omega)
          · rcases h6 with h6 | ⟨m, m1, m2⟩
            · omega
            · exact ⟨m, by omega, m2⟩
        · refine el_e y (Bd_e (G_e (by omega) (Bd_e (Bd_e ?_))))
          rw [e1]
          refine ih _ (k + 1) (by omega) (by omega) (by omega) (by omega) (fun m a d => ?_) (Or.inr ⟨k, by omega, rfl⟩)
          by_cases t : m = k
          · rw [t]; exact Int.le_refl _
          · have := h5 m a (by omega)
            omega
  unfold F_X6_mostOf
  exact key NN (-1) 0 (by omega) (by omega) (NN_gt (by omega)) (by omega) (fun m a b => absurd b (by omega)) (Or.inl ⟨rfl, rfl⟩)
theorem mostOf_none {p : Int} {mk : Nat → Int} : F_X6_mostOf p (-1) mk = some (-1) := by
  unfold F_X6_mostOf
  obtain ⟨j, hj⟩ : ∃ j, NN = j + 1 := ⟨NN - 1, by have := NN_gt (z := 1) (by omega); omega⟩
  rw [hj]
  show F_X6_mostOf_b5_body mk (F_X6_mostOf_b5 mk j) p (-1) (-1) 0 = _
  unfold F_X6_mostOf_b5_body
  exact G_i (by omega) (if_i (by omega) rfl)
theorem v_most {P F D L x : Int} {tok w lg : Nat → Int} {q : Int × (Nat → Int) × (Nat → Int) × (Nat → Int) × (Nat → Int)} (hP : 0 ≤ P ∧ P ≤ 6) (h : GQ P F tok w q) (hx : 0 ≤ x ∧ x < P) :
    ∃ v, F_X6_mostOf x q.1 q.2.1 = some v ∧ dx_most x (P, F, D, L, tok, w, lg) = some (v, (P, F, D, L, tok, w, lg)) ∧ ((q.1 = -1 ∧ v = -1) ∨ (q.1 ≠ -1 ∧ (0 ≤ v ∧ v ≤ 99) ∧ (∀ m : Int, 0 ≤ m → m < q.1 → row q.2.1 m x ≤ v) ∧ ∃ m : Int, (0 ≤ m ∧ m < q.1) ∧ row q.2.1 m x = v)) := by
  obtain ⟨qn, qm, qw, qb, ql⟩ := q
  obtain ⟨hq, hB⟩ := h
  have M : ∀ v : Int, F_X6_mostOf x qn qm = some v → dx_most x (P, F, D, L, tok, w, lg) = some (v, (P, F, D, L, tok, w, lg)) := fun v hv => by
    unfold dx_most F_X6_most F_X6_most_b14
    exact Ob_i (y := (v, 0, qm, qw, qb, ql)) (Ob_i (isPlace_c hP hx) (G_i (by omega) (el_i (by omega) (Ob_i goesWell_0 (G_i (by omega) (el_i (by omega) (Ob_i hq (Ob_i hv rfl)))))))) (G_i rfl rfl)
  dsimp only
  rcases hB with ⟨a, -⟩ | ⟨a, b⟩
  · dsimp only at a
    subst a
    exact ⟨-1, mostOf_none, M (-1) mostOf_none, Or.inl ⟨rfl, rfl⟩⟩
  · dsimp only at a b
    obtain ⟨v, v1, v2⟩ := most_ok (p := x) (by omega) b.1.1 (fun m m1 m2 => b.2.1.1 m m1 m2 x hx.1 hx.2)
    exact ⟨v, v1, M v v1, Or.inr ⟨a, v2⟩⟩
theorem dx_thr {α : Type} {t : Int} {k : Option α} {r : α} (h : G (t = 0) k = some r) : t = 0 := (G_of h).1
theorem most_no {P F D L x : Int} {tok w lg : Nat → Int} (hP : 0 ≤ P ∧ P ≤ 6) (hx : inR x) (h : ¬ (0 ≤ x ∧ x < P)) : ax_most x (P, F, D, L, tok, w, lg) = some (-99999999, (P, F, D, L, tok, w, lg)) := by
  unfold ax_most F_X6_most F_X6_most_b14
  exact Ob_i (y := (0, 1, zf, zf, zf, zf)) (Ob_i (isPlace_n hx hP h) (G_i (by omega) (if_i rfl (Ob_i (goesWell_n (by omega) (by omega)) (G_i (by omega) (if_i rfl rfl)))))) rfl
