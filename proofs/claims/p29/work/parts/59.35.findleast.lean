/-! the reference's findLeast: the same list -/
theorem keepB_ok {P F a cs : Int} {w : Nat → Int} {l : List Nat} {c B k : Nat} {found : Nat → Int} {S : Prop} (ag51 : Int → Int → Int → Int → Int → (Nat → Int) → Option (Int × (Nat → Int))) (hB : 2 ≤ B ∧ B ≤ 10) (hk : k ≤ 8) (hl : l.length ≤ 2000) (ha : Arr idI found l) (hb : ∀ x, x ∈ l → x < B ^ k ∧ x < 2147483648) (hc : c < 2147483648) :
    ∀ (fu i : Nat) (d : Int), i ≤ l.length → l.length - i < fu → isB d (S ∧ ∀ (j : Nat) (h : j < l.length), j < i → ¬ bB B k l[j] c) → ∃ e, isB e (S ∧ ∀ x, x ∈ l → ¬ bB B k x c) ∧ F_X6_findLeast_b81 P F w ag51 fu a (B : Int) cs (l.length : Int) (c : Int) d (i : Int) found = if e = 1 then ag51 a (B : Int) cs ((l.length : Int) + 1) ((c : Int) + 1) (uI found l.length (c : Int)) else ag51 a (B : Int) cs (l.length : Int) ((c : Int) + 1) found := by
  intro fu
  induction fu with
  | zero => intro i d h1 h2; exact absurd h2 (by omega)
  | succ fu ih =>
    intro i d h1 h2 h3
    show ∃ e, _ ∧ F_X6_findLeast_b81_body P F w ag51 (F_X6_findLeast_b81 P F w ag51 fu) a (B : Int) cs (l.length : Int) (c : Int) d (i : Int) found = _
    unfold F_X6_findLeast_b81_body F_X6_findLeast_b122
    by_cases z : (l.length : Int) ≤ i
    · have h4 : isB d (S ∧ ∀ x, x ∈ l → ¬ bB B k x c) := isB_iff h3 ⟨fun q => ⟨q.1, fun x hx => by
        obtain ⟨j, hj, rfl⟩ := List.getElem_of_mem hx
        exact q.2 j hj (by omega)⟩, fun q => ⟨q.1, fun j hj _ => q.2 _ (List.getElem_mem hj)⟩⟩
      refine ⟨d, h4, G_i (by omega) (if_i z (G_i (by have := isB_01 h3; omega) ?_))⟩
      rcases isB_01 h3 with y | y
      · rw [if_neg (by omega : ¬ d = 1)]
        exact if_i y rfl
      · rw [if_pos y]
        exact el_i (by omega) (G_i (by omega) (Bd_i (Bd_i rfl)))
    · have hi : i < l.length := by omega
      have hx := hb l[i] (List.getElem_mem hi)
      rcases h3 with ⟨rfl, h3⟩ | ⟨rfl, h3⟩
      · obtain ⟨r, r1, r2⟩ := isBelow_ok (B := B) (k := k) (a := l[i]) (b := c) hB hk hx.1 hx.2 hc
        have eq9 : found ((i : Int)).toNat = ((l[i] : Nat) : Int) := by rw [Int.toNat_natCast]; exact ha i hi
        rcases r2 with ⟨rfl, r2⟩ | ⟨rfl, r2⟩
        · obtain ⟨e, e1, e2⟩ := ih (i + 1) 0 (by omega) (by omega) (Or.inr ⟨rfl, fun q => q.2 i hi (by omega) r2⟩)
          refine ⟨e, e1, G_i (by omega) (el_i z (G_i (by omega) (el_i (by omega) (G_i (by omega) (Bd_i ?_)))))⟩
          rw [eq9]
          exact Ob_i r1 (G_i (by omega) (el_i (by omega) e2))
        · obtain ⟨e, e1, e2⟩ := ih (i + 1) 1 (by omega) (by omega) (Or.inl ⟨rfl, h3.1, fun j hj q => by
            by_cases t : j = i
            · subst t; exact r2
            · exact h3.2 j hj (by omega)⟩)
          refine ⟨e, e1, G_i (by omega) (el_i z (G_i (by omega) (el_i (by omega) (G_i (by omega) (Bd_i ?_)))))⟩
          rw [eq9]
          exact Ob_i r1 (G_i (by omega) (if_i rfl e2))
      · refine ⟨0, Or.inr ⟨rfl, fun q => h3 ⟨q.1, fun j hj _ => q.2 _ (List.getElem_mem hj)⟩⟩, G_i (by omega) (el_i z (G_i (by omega) (if_i rfl (G_i (by omega) (if_i rfl ?_)))))⟩
        rw [if_neg (by omega)]
        rfl
theorem findLeast_ok {P F a : Int} {w f0 : Nat → Int} {B k nE : Nat} {g : Nat → Nat → Int} {ad : Nat → Prop} (hB : 2 ≤ B ∧ B ≤ 10) (hk : k ≤ 8) (hBk : B ^ k ≤ 6561) (ha : (a = 0 ∧ B = 3 ∧ F = (k : Int)) ∨ (a = 1 ∧ B = 4 ∧ P = (k : Int))) (hn : ∀ c, c ≤ B ^ k → (kB B k nE g ad c).length ≤ 2000)
    (hI : ∀ c : Nat, 1 ≤ c → c < B ^ k → ∃ r, (if a = 0 then F_X6_isRound (c : Int) P F w else F_X6_isRow (c : Int) P F w) = some r ∧ isB r (bS B k nE g ad c)) :
    ∃ r, F_X6_findLeast a P F w f0 = some r ∧ (r.1 = ((kB B k nE g ad (B ^ k)).length : Int) ∧ Arr idI r.2 (kB B k nE g ad (B ^ k))) := by
  have hpos : 0 < B ^ k := Nat.pow_pos (by omega)
  have ha01 : a = 0 ∨ a = 1 := by rcases ha with q | q <;> omega
  have main : ∀ (fu c : Nat) (found : Nat → Int), 1 ≤ c → c ≤ B ^ k → B ^ k - c < fu → Arr idI found (kB B k nE g ad c) → ∃ r, F_X6_findLeast_b51 P F w fu a (B : Int) ((B ^ k : Nat) : Int) ((kB B k nE g ad c).length : Int) (c : Int) found = some r ∧ (r.1 = ((kB B k nE g ad (B ^ k)).length : Int) ∧ Arr idI r.2 (kB B k nE g ad (B ^ k))) := by
    intro fu
    induction fu with
    | zero => intro c found h1 h2 h3; exact absurd h3 (by omega)
    | succ fu ih =>
      intro c found h1 h2 h3 h4
      show ∃ r, F_X6_findLeast_b51_body P F w (F_X6_findLeast_b51 P F w fu) a (B : Int) ((B ^ k : Nat) : Int) ((kB B k nE g ad c).length : Int) (c : Int) found = some r ∧ _
      unfold F_X6_findLeast_b51_body
      refine G_e (by omega) ?_
      by_cases z : ((B ^ k : Nat) : Int) ≤ (c : Int)
      · refine if_e z (so_e ?_)
        obtain rfl : c = B ^ k := by omega
        exact ⟨rfl, h4⟩
      · refine el_e z (G_e (by omega) ?_)
        obtain ⟨r, r1, r2⟩ := hI c h1 (by omega)
        have hlen := hn c (by omega)
        have fin : ∃ r', F_X6_findLeast_b76 P F w (F_X6_findLeast_b51 P F w fu) a (B : Int) ((B ^ k : Nat) : Int) ((kB B k nE g ad c).length : Int) (c : Int) r found = some r' ∧ (r'.1 = ((kB B k nE g ad (B ^ k)).length : Int) ∧ Arr idI r'.2 (kB B k nE g ad (B ^ k))) := by
          obtain ⟨e, e1, e2⟩ := keepB_ok (P := P) (F := F) (a := a) (cs := ((B ^ k : Nat) : Int)) (w := w) (S := bS B k nE g ad c) (k := k) (c := c) (B := B) (F_X6_findLeast_b51 P F w fu) hB hk hlen h4 (fun x hx => by have := (kp_mem _ x hx).1; omega) (by omega) NN 0 r (Nat.zero_le _) (by have := NN_gt (z := 3000) (by omega); omega) (isB_iff r2 ⟨fun q => ⟨q, fun j _ h => absurd h (Nat.not_lt_zero j)⟩, fun q => q.1⟩)
          have e2' : F_X6_findLeast_b76 P F w (F_X6_findLeast_b51 P F w fu) a (B : Int) ((B ^ k : Nat) : Int) ((kB B k nE g ad c).length : Int) (c : Int) r found = _ := e2
          rw [e2']
          rcases e1 with ⟨rfl, e1⟩ | ⟨rfl, e1⟩
          · rw [if_pos rfl]
            have e : kB B k nE g ad (c + 1) = kB B k nE g ad c ++ [c] := kp_add e1.1 e1.2
            have hA : Arr idI (uI found (kB B k nE g ad c).length (c : Int)) (kB B k nE g ad (c + 1)) := by
              rw [e]; exact Arr_add h4 rfl rfl
            have := ih (c + 1) _ (by omega) (by omega) (by omega) hA
            rw [e, List.length_append, List.length_singleton] at this
            exact this
          · rw [if_neg (by omega)]
            have e : kB B k nE g ad (c + 1) = kB B k nE g ad c := kp_skip e1
            have := ih (c + 1) found (by omega) (by omega) (by omega) (by rw [e]; exact h4)
            rw [e] at this
            exact this
        rcases ha01 with y | y
        · rw [if_pos y] at r1
          exact if_e y (Ob_e r1 fin)
        · rw [if_neg (by omega)] at r1
          exact el_e (by omega) (Ob_e r1 fin)
  have start : ∃ r, F_X6_findLeast_b51 P F w NN a (B : Int) ((B ^ k : Nat) : Int) 0 1 f0 = some r ∧ (r.1 = ((kB B k nE g ad (B ^ k)).length : Int) ∧ Arr idI r.2 (kB B k nE g ad (B ^ k))) := by
    have e1 : kB B k nE g ad 1 = [] := kp_skip (c := 0) (fun q => absurd q.1.1 (by omega))
    have := main NN 1 f0 (Nat.le_refl _) hpos (by have := NN_gt (z := 7000) (by omega); omega) (by rw [e1]; exact Arr_nil)
    rw [e1] at this
    exact this
  have codes : ∀ (fu q : Nat), q ≤ k → k - q < fu → ∃ r, F_X6_findLeast_b15 P F w fu a (B : Int) ((B ^ q : Nat) : Int) (q : Int) f0 = some r ∧ (r.1 = ((kB B k nE g ad (B ^ k)).length : Int) ∧ Arr idI r.2 (kB B k nE g ad (B ^ k))) := by
    intro fu
    induction fu with
    | zero => intro q h1 h2; exact absurd h2 (by omega)
    | succ fu ih =>
      intro q h1 h2
      show ∃ r, F_X6_findLeast_b15_body P F w (F_X6_findLeast_b15 P F w fu) a (B : Int) ((B ^ q : Nat) : Int) (q : Int) f0 = some r ∧ _
      have fin : ∃ r, F_X6_findLeast_b32 P F w (F_X6_findLeast_b15 P F w fu) a (B : Int) ((B ^ q : Nat) : Int) (q : Int) (q : Int) (k : Int) f0 = some r ∧ (r.1 = ((kB B k nE g ad (B ^ k)).length : Int) ∧ Arr idI r.2 (kB B k nE g ad (B ^ k))) := by
        unfold F_X6_findLeast_b32
        refine G_e (by omega) ?_
        by_cases z : (k : Int) ≤ (q : Int)
        · refine if_e z ?_
          obtain rfl : q = k := by omega
          exact start
        · refine el_e z (Bd_e (Bd_e ?_))
          have := ih (q + 1) (by omega) (by omega)
          rw [Nat.pow_succ, Int.natCast_mul] at this
          exact this
      unfold F_X6_findLeast_b15_body
      refine G_e (by omega) ?_
      rcases ha with ⟨y, -, y2⟩ | ⟨y, -, y2⟩
      · rw [y2] at fin ⊢
        exact if_e y fin
      · rw [y2] at fin ⊢
        exact el_e (by omega) fin
  have c0 := codes NN 0 (Nat.zero_le _) (by have := NN_gt (z := 100) (by omega); omega)
  rw [Nat.pow_zero] at c0
  unfold F_X6_findLeast F_X6_findLeast_b9
  refine G_e (by omega) ?_
  rcases ha with ⟨y, y1, -⟩ | ⟨y, y1, -⟩
  · subst y1
    exact if_e y c0
  · subst y1
    exact el_e (by omega) c0
theorem rows_len {k n c : Nat} {w : Nat → Int} (hk : k ≤ 6) (hc : c ≤ 4 ^ k) : (kB 4 k n (gRow w) (adRow n w) c).length ≤ 580 := by
  rw [← nb_rows]
  exact kB_len (m := 3) hc hk
theorem rounds_len {k n c : Nat} {w : Nat → Int} (hk : k ≤ 8) (hc : c ≤ 3 ^ k) : (kB 3 k n (gRound w) (adRound n w) c).length ≤ 1107 := by
  rw [← nb_rounds]
  exact kB_len (m := 2) hc hk
theorem p4_le {k : Nat} (hk : k ≤ 6) : 4 ^ k ≤ 4096 := Nat.pow_le_pow_right (n := 4) (by decide) hk
theorem p3_le {k : Nat} (hk : k ≤ 8) : 3 ^ k ≤ 6561 := Nat.pow_le_pow_right (n := 3) (by decide) hk
theorem leastRows_ok {k n : Nat} {w f0 : Nat → Int} (hw : wOk w) (hk : k ≤ 6) (hn : n ≤ 8) : ∃ r, F_X6_findLeast 1 (k : Int) (n : Int) w f0 = some r ∧ (r.1 = ((kB 4 k n (gRow w) (adRow n w) (4 ^ k)).length : Int) ∧ Arr idI r.2 (kB 4 k n (gRow w) (adRow n w) (4 ^ k))) :=
  findLeast_ok (by omega) (by omega) (by have := p4_le hk; omega) (Or.inr ⟨rfl, rfl, rfl⟩) (fun c hc => by have := rows_len (n := n) (w := w) hk hc; omega) (fun c c1 c2 => by
    rw [if_neg (by omega)]
    have := p4_le hk
    exact isRow_ok hw hk hn ⟨c1, by omega⟩)
theorem leastRounds_ok {k n : Nat} {w f0 : Nat → Int} (hw : wOk w) (hk : k ≤ 8) (hn : n ≤ 6) : ∃ r, F_X6_findLeast 0 (n : Int) (k : Int) w f0 = some r ∧ (r.1 = ((kB 3 k n (gRound w) (adRound n w) (3 ^ k)).length : Int) ∧ Arr idI r.2 (kB 3 k n (gRound w) (adRound n w) (3 ^ k))) :=
  findLeast_ok (by omega) (by omega) (by have := p3_le hk; omega) (Or.inl ⟨rfl, rfl, rfl⟩) (fun c hc => by have := rounds_len (n := n) (w := w) hk hc; omega) (fun c c1 c2 => by
    rw [if_pos rfl]
    have := p3_le hk
    exact isRound_ok hw hk hn ⟨c1, by omega⟩)
