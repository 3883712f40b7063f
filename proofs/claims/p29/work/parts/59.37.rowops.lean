/-! the calls rows, row, rounds, round -/
theorem numberOf_ok {m k room c p : Nat} {x cnt : Int} {le : Nat → Int} (hm : m ≤ 3) (hk : k ≤ 8) (hp : p < k) (hx : 0 ≤ x ∧ x < cnt) (hc : cnt ≤ room) (hr : room ≤ 2000) (he : le x.toNat = enB (m + 1) k c) : F_X0_numberOf x (p : Int) room cnt le = some ((dg (m + 1) k c p : Nat) : Int) := by
  unfold F_X0_numberOf
  refine G_i (by omega) (el_i (by omega) (G_i (by omega) (el_i (by omega) (G_i (by omega) (Bd_i ?_)))))
  rw [he]
  unfold enB
  rw [vdig_ok (fun i _ => by have := dk_le (m := m) (k := k) (c := c) (p := i); omega) (by omega), dk_in hp]
theorem Arr_get {e a : Nat → Int} {l : List Nat} {x : Int} (h : Arr e a l) (hx : 0 ≤ x ∧ x < (l.length : Int)) : ∃ c : Nat, c ∈ l ∧ a x.toNat = e c ∧ ∀ (e' b : Nat → Int), Arr e' b l → b x.toNat = e' c := by
  have hi : x.toNat < l.length := by omega
  exact ⟨l[x.toNat], List.getElem_mem hi, h _ hi, fun e' b hb => hb _ hi⟩
theorem op_rows {k n : Nat} {w le adm fd : Nat → Int} {sh ss cnt wd v th : Int} {su : Int64} {col : Nat → Int64} (hw : wOk w) (hk : k ≤ 6) (hn : n ≤ 8) (hsh : 0 ≤ sh ∧ sh < 1000000) (hR : RRow k n w sh ss cnt le) :
    ∃ rx rm, F_X5_rows (k : Int) (n : Int) sh w 3 wd v su cnt ss le col adm = some rx ∧ F_X6_rows (k : Int) (n : Int) w th fd = some rm ∧ RRow k n w sh rx.2.2.2.2.2.1 rx.2.2.2.2.1 rx.2.2.2.2.2.2.1 ∧ rx.1 = rm.1 ∧ inR rx.1 := by
  obtain ⟨r, g1, g2, g3⟩ := refreshRows_ok (wd := wd) (v := v) (su := su) (col := col) (adm := adm) hw hk hn hsh hR
  obtain ⟨q, k1, k2, k3⟩ := leastRows_ok (f0 := fd) hw hk hn
  have hl := rows_len (n := n) (w := w) hk (Nat.le_refl (4 ^ k))
  have h9 := g3.1
  exact ⟨_, _, Ob_i g1 rfl, Ob_i k1 rfl, ⟨by dsimp only; omega, fun _ => g3⟩, by dsimp only; omega, by dsimp only; omega⟩
theorem op_row {k n : Nat} {w le adm fd : Nat → Int} {sh ss cnt wd v th x y : Int} {su : Int64} {col : Nat → Int64} (hw : wOk w) (hk : k ≤ 6) (hn : n ≤ 8) (hsh : 0 ≤ sh ∧ sh < 1000000) (hx : inR x) (hy : inR y) (hR : RRow k n w sh ss cnt le) :
    ∃ rx rm, F_X5_row x y (k : Int) (n : Int) sh w 3 wd v su cnt ss le col adm = some rx ∧ F_X6_row x y (k : Int) (n : Int) w th fd = some rm ∧ RRow k n w sh rx.2.2.2.2.2.2.1 rx.2.2.2.2.2.1 rx.2.2.2.2.2.2.2.1 ∧ ((rx.1 = 0 ∧ rm.2.1 = 0 ∧ rx.2.1 = rm.1 ∧ inR rx.2.1) ∨ (rx.1 = 3 ∧ rm.2.1 = 1)) := by
  obtain ⟨⟨wd1, v1, su1, c1, s1, le1, col1, adm1⟩, g1, g2, g3⟩ := refreshRows_ok (wd := wd) (v := v) (su := su) (col := col) (adm := adm) hw hk hn hsh hR
  obtain ⟨⟨nn, f1⟩, k1, k2, k3⟩ := leastRows_ok (f0 := fd) hw hk hn
  have hl := rows_len (n := n) (w := w) hk (Nat.le_refl (4 ^ k))
  have h9 := g3.1
  have hpw := p4_le (k := k) hk
  dsimp only at g2 g3 k2 k3 h9
  have hRS : RRow k n w sh s1 c1 le1 := ⟨by omega, fun _ => g3⟩
  obtain ⟨ri, m1, m2⟩ := in_ok (x := x) (a := 0) (b := nn - 1) hx (by omega) (by omega)
  obtain ⟨rp, p1, p2⟩ := isPlace_ok (x := y) (P := (k : Int)) hy (by omega)
  have bad : (ri = 0 ∨ rp = 0) → F_X6_row x y (k : Int) (n : Int) w th fd = some (0, 1, f1) := fun h => by
    unfold F_X6_row F_X6_row_b28 F_X6_row_b29
    by_cases z : ri = 0
    · exact Ob_i k1 (Ob_i m1 (G_i (by omega) (if_i z (Ob_i (goesWell_n (by omega) (by omega)) (G_i (by omega) (if_i rfl rfl))))))
    · exact Ob_i k1 (Ob_i m1 (G_i (by have := isB_01 m2; omega) (el_i z (Ob_i p1 (G_i (by have := isB_01 p2; omega) (if_i (h.resolve_left z) (Ob_i (goesWell_n (by omega) (by omega)) (G_i (by omega) (if_i rfl rfl)))))))))
  by_cases c : 0 ≤ x ∧ x < nn
  · have hri : ri = 1 := by
      rcases m2 with q | q
      · exact q.1
      · exact absurd (by omega) q.2
    by_cases d : 0 ≤ y ∧ y < (k : Int)
    · have hrp : rp = 1 := by
        rcases p2 with q | q
        · exact q.1
        · exact absurd d q.2
      obtain ⟨cc, q1, q2, q3⟩ := Arr_get (x := x) g3.2 (by omega)
      have hcc := (kp_mem _ _ q1).1
      have q4 := q3 idI f1 k3
      obtain ⟨p, rfl⟩ : ∃ p : Nat, y = (p : Int) := ⟨y.toNat, by omega⟩
      have hdg := dg_lt (B := 4) (k := k) (c := cc) (p := p) (by omega)
      refine ⟨(0, ((dg 4 k cc p : Nat) : Int), wd1, v1, su1, c1, s1, le1, col1, adm1), (((dg 4 k cc p : Nat) : Int), 0, f1), ?_, ?_, hRS, Or.inl ⟨rfl, rfl, rfl, by dsimp only; omega⟩⟩
      · unfold F_X5_row
        exact Ob_i g1 (G_i hx (el_i (by omega) (G_i (by dsimp only; omega) (if_i (by dsimp only; omega) (Ob_i (needPlace_ok hy (by omega)) (if_i (if_pos d) (Ob_i (numberOf_ok (m := 3) (room := 580) (by omega) (by omega) (by omega) (by dsimp only; omega) (by dsimp only; omega) (by omega) q2) rfl)))))))
      · unfold F_X6_row F_X6_row_b29
        refine Ob_i k1 (Ob_i m1 (G_i (by omega) (el_i (by omega) (Ob_i p1 (G_i (by omega) (el_i (by omega) (Ob_i goesWell_0 (G_i (by omega) (el_i (by omega) (G_i (by omega) (Bd_i ?_)))))))))))
        dsimp only
        rw [q4]
        exact Ob_i (digit_ok (B := 4) (c := cc) (by omega) (by omega) (by omega) (by omega)) rfl
    · have hrp : rp = 0 := by
        rcases p2 with q | q
        · exact absurd q.2 d
        · exact q.1
      refine ⟨(3, 0, wd1, v1, su1, c1, s1, le1, col1, adm1), (0, 1, f1), ?_, bad (Or.inr hrp), hRS, Or.inr ⟨rfl, rfl⟩⟩
      unfold F_X5_row
      refine Ob_i g1 (G_i hx (el_i (by omega) (G_i (by dsimp only; omega) (if_i (by dsimp only; omega) (Ob_i (needPlace_ok hy (by omega)) ?_)))))
      rw [if_neg d]
      exact el_i (by omega) rfl
  · have hri : ri = 0 := by
      rcases m2 with q | q
      · exact absurd (by omega) c
      · exact q.1
    refine ⟨(3, 0, wd1, v1, su1, c1, s1, le1, col1, adm1), (0, 1, f1), ?_, bad (Or.inl hri), hRS, Or.inr ⟨rfl, rfl⟩⟩
    unfold F_X5_row
    refine Ob_i g1 (G_i hx ?_)
    by_cases z : x < 0
    · exact if_i z rfl
    · exact el_i z (G_i (by dsimp only; omega) (el_i (by dsimp only; omega) rfl))
theorem op_rounds {k n : Nat} {w le adm fd : Nat → Int} {sh ss cnt wd v th : Int} {su : Int64} {col : Nat → Int64} (hw : wOk w) (hk : k ≤ 8) (hn : n ≤ 6) (hsh : 0 ≤ sh ∧ sh < 1000000) (hR : RRound k n w sh ss cnt le) :
    ∃ rx rm, F_X5_rounds (n : Int) (k : Int) sh w 2 wd v su cnt ss le col adm = some rx ∧ F_X6_rounds (n : Int) (k : Int) w th fd = some rm ∧ RRound k n w sh rx.2.2.2.2.2.1 rx.2.2.2.2.1 rx.2.2.2.2.2.2.1 ∧ rx.1 = rm.1 ∧ inR rx.1 := by
  obtain ⟨r, g1, g2, g3⟩ := refreshRounds_ok (wd := wd) (v := v) (su := su) (col := col) (adm := adm) hw hk hn hsh hR
  obtain ⟨q, k1, k2, k3⟩ := leastRounds_ok (f0 := fd) hw hk hn
  have hl := rounds_len (n := n) (w := w) hk (Nat.le_refl (3 ^ k))
  have h9 := g3.1
  exact ⟨_, _, Ob_i g1 rfl, Ob_i k1 rfl, ⟨by dsimp only; omega, fun _ => g3⟩, by dsimp only; omega, by dsimp only; omega⟩
theorem op_round {k n : Nat} {w le adm fd : Nat → Int} {sh ss cnt wd v th x y : Int} {su : Int64} {col : Nat → Int64} (hw : wOk w) (hk : k ≤ 8) (hn : n ≤ 6) (hsh : 0 ≤ sh ∧ sh < 1000000) (hx : inR x) (hy : inR y) (hR : RRound k n w sh ss cnt le) :
    ∃ rx rm, F_X5_round x y (n : Int) (k : Int) sh w 2 wd v su cnt ss le col adm = some rx ∧ F_X6_round x y (n : Int) (k : Int) w th fd = some rm ∧ RRound k n w sh rx.2.2.2.2.2.2.1 rx.2.2.2.2.2.1 rx.2.2.2.2.2.2.2.1 ∧ ((rx.1 = 0 ∧ rm.2.1 = 0 ∧ rx.2.1 = rm.1 ∧ inR rx.2.1) ∨ (rx.1 = 3 ∧ rm.2.1 = 1)) := by
  obtain ⟨⟨wd1, v1, su1, c1, s1, le1, col1, adm1⟩, g1, g2, g3⟩ := refreshRounds_ok (wd := wd) (v := v) (su := su) (col := col) (adm := adm) hw hk hn hsh hR
  obtain ⟨⟨nn, f1⟩, k1, k2, k3⟩ := leastRounds_ok (f0 := fd) hw hk hn
  have hl := rounds_len (n := n) (w := w) hk (Nat.le_refl (3 ^ k))
  have h9 := g3.1
  have hpw := p3_le (k := k) hk
  dsimp only at g2 g3 k2 k3 h9
  have hRS : RRound k n w sh s1 c1 le1 := ⟨by omega, fun _ => g3⟩
  obtain ⟨ri, m1, m2⟩ := in_ok (x := x) (a := 0) (b := nn - 1) hx (by omega) (by omega)
  obtain ⟨rp, p1, p2⟩ := isFiring_ok (x := y) (P := (k : Int)) hy (by omega)
  have bad : (ri = 0 ∨ rp = 0) → F_X6_round x y (n : Int) (k : Int) w th fd = some (0, 1, f1) := fun h => by
    unfold F_X6_round F_X6_round_b28 F_X6_round_b29
    by_cases z : ri = 0
    · exact Ob_i k1 (Ob_i m1 (G_i (by omega) (if_i z (Ob_i (goesWell_n (by omega) (by omega)) (G_i (by omega) (if_i rfl rfl))))))
    · exact Ob_i k1 (Ob_i m1 (G_i (by have := isB_01 m2; omega) (el_i z (Ob_i p1 (G_i (by have := isB_01 p2; omega) (if_i (h.resolve_left z) (Ob_i (goesWell_n (by omega) (by omega)) (G_i (by omega) (if_i rfl rfl)))))))))
  by_cases c : 0 ≤ x ∧ x < nn
  · have hri : ri = 1 := by
      rcases m2 with q | q
      · exact q.1
      · exact absurd (by omega) q.2
    by_cases d : 0 ≤ y ∧ y < (k : Int)
    · have hrp : rp = 1 := by
        rcases p2 with q | q
        · exact q.1
        · exact absurd d q.2
      obtain ⟨cc, q1, q2, q3⟩ := Arr_get (x := x) g3.2 (by omega)
      have hcc := (kp_mem _ _ q1).1
      have q4 := q3 idI f1 k3
      obtain ⟨p, rfl⟩ : ∃ p : Nat, y = (p : Int) := ⟨y.toNat, by omega⟩
      have hdg := dg_lt (B := 3) (k := k) (c := cc) (p := p) (by omega)
      refine ⟨(0, ((dg 3 k cc p : Nat) : Int), wd1, v1, su1, c1, s1, le1, col1, adm1), (((dg 3 k cc p : Nat) : Int), 0, f1), ?_, ?_, hRS, Or.inl ⟨rfl, rfl, rfl, by dsimp only; omega⟩⟩
      · unfold F_X5_round
        exact Ob_i g1 (G_i hx (el_i (by omega) (G_i (by dsimp only; omega) (if_i (by dsimp only; omega) (Ob_i (needFiring_ok hy (by omega)) (if_i (if_pos d) (Ob_i (numberOf_ok (m := 2) (room := 1107) (by omega) (by omega) (by omega) (by dsimp only; omega) (by dsimp only; omega) (by omega) q2) rfl)))))))
      · unfold F_X6_round F_X6_round_b29
        refine Ob_i k1 (Ob_i m1 (G_i (by omega) (el_i (by omega) (Ob_i p1 (G_i (by omega) (el_i (by omega) (Ob_i goesWell_0 (G_i (by omega) (el_i (by omega) (G_i (by omega) (Bd_i ?_)))))))))))
        dsimp only
        rw [q4]
        exact Ob_i (digit_ok (B := 3) (c := cc) (by omega) (by omega) (by omega) (by omega)) rfl
    · have hrp : rp = 0 := by
        rcases p2 with q | q
        · exact absurd q.2 d
        · exact q.1
      refine ⟨(3, 0, wd1, v1, su1, c1, s1, le1, col1, adm1), (0, 1, f1), ?_, bad (Or.inr hrp), hRS, Or.inr ⟨rfl, rfl⟩⟩
      unfold F_X5_round
      refine Ob_i g1 (G_i hx (el_i (by omega) (G_i (by dsimp only; omega) (if_i (by dsimp only; omega) (Ob_i (needFiring_ok hy (by omega)) ?_)))))
      rw [if_neg d]
      exact el_i (by omega) rfl
  · have hri : ri = 0 := by
      rcases m2 with q | q
      · exact absurd (by omega) c
      · exact q.1
    refine ⟨(3, 0, wd1, v1, su1, c1, s1, le1, col1, adm1), (0, 1, f1), ?_, bad (Or.inl hri), hRS, Or.inr ⟨rfl, rfl⟩⟩
    unfold F_X5_round
    refine Ob_i g1 (G_i hx ?_)
    by_cases z : x < 0
    · exact if_i z rfl
    · exact el_i z (G_i (by dsimp only; omega) (el_i (by dsimp only; omega) rfl))
