/-! sums by rows, bounds by rows, the call mostByRows -/
def sumR (k c : Nat) (t : Int → Int) : Int := si k (fun p => (dg 4 k c p : Int) * t (p : Int))
theorem si_nn {a : Nat → Int} {M : Int} : ∀ (n : Nat), (∀ i, i < n → 0 ≤ a i ∧ a i ≤ M) → 0 ≤ si n a ∧ si n a ≤ n * M
  | 0, _ => by rw [si]; omega
  | n + 1, h => by
    have h1 := si_nn n (fun i hi => h i (by omega))
    have h2 := h n (by omega)
    rw [si, show ((n + 1 : Nat) : Int) * M = n * M + M by rw [Int.natCast_add, Int.add_mul]; omega]
    omega
theorem sumR_b {k c : Nat} {t : Int → Int} (hk : k ≤ 6) (ht : tOk (k : Int) t) : 0 ≤ sumR k c t ∧ sumR k c t ≤ 1782 := by
  have := si_nn (a := fun p => (dg 4 k c p : Int) * t (p : Int)) (M := 297) k (fun p hp => by
    have t1 := ht (p : Int) (by omega) (by omega)
    have d1 := dg_lt (B := 4) (k := k) (c := c) (p := p) (by omega)
    have h3 := Int.mul_le_mul_of_nonneg_left t1.2 (by omega : 0 ≤ (dg 4 k c p : Int))
    have h4 := Int.mul_nonneg (by omega : 0 ≤ (dg 4 k c p : Int)) t1.1
    omega)
  unfold sumR
  omega
theorem sumR_cong {k c : Nat} {t u : Int → Int} (h : eqP (k : Int) t u) : sumR k c t = sumR k c u := si_cong k (fun p hp => by rw [h (p : Int) (by omega) (by omega)])
theorem sumOfRow_ok {k c : Nat} {x cnt : Int} {t : Int → Int} {le : Nat → Int} (hk : k ≤ 6) (ht : tOk (k : Int) t) (hx : 0 ≤ x ∧ x < cnt) (hc : cnt ≤ 580) (he : le x.toNat = enB 4 k c) : F_X5_sumOfRow x (pk (cut (k : Int) t)) (k : Int) cnt le = some (sumR k c t) := by
  have key : ∀ (fu p : Nat), p ≤ k → k - p < fu → F_X5_sumOfRow_b6 (k : Int) cnt le fu x (pk (cut (k : Int) t)) (si p (fun p => (dg 4 k c p : Int) * t (p : Int))) (p : Int) = some (sumR k c t) := by
    intro fu
    induction fu with
    | zero => intro p h1 h2; exact absurd h2 (by omega)
    | succ fu ih =>
      intro p h1 h2
      show F_X5_sumOfRow_b6_body (k : Int) cnt le (F_X5_sumOfRow_b6 (k : Int) cnt le fu) x _ _ (p : Int) = _
      unfold F_X5_sumOfRow_b6_body
      refine G_i (by omega) ?_
      by_cases z : (k : Int) ≤ (p : Int)
      · refine if_i z ?_
        obtain rfl : p = k := by omega
        rfl
      · refine el_i z (Ob_i (numberOf_ok (m := 3) (room := 580) (by omega) (by omega) (by omega) hx hc (by omega) he) (Ob_i (tokensIn_ok (bOk_le (cut_b ht) (by omega)) (by omega)) (Bd_i (Bd_i ?_))))
        rw [show cut (k : Int) t (p : Int) = t (p : Int) from if_pos (by omega)]
        exact ih (p + 1) (by omega) (by omega)
  unfold F_X5_sumOfRow
  exact key NN 0 (Nat.zero_le _) (by have := NN_gt (z := 100) (by omega); omega)
theorem sumBy_ok {k c : Nat} {m : Int} {t : Int → Int} {mk : Nat → Int} (hk : k ≤ 6) (hc : c < 2147483648) (hm : 0 ≤ m ∧ m ≤ 300) (he : eqP (k : Int) (row mk m) t) : F_X6_sumBy (c : Int) m (k : Int) mk = some (sumR k c t) := by
  have key : ∀ (fu p : Nat), p ≤ k → k - p < fu → F_X6_sumBy_b5 (k : Int) mk fu (c : Int) m (si p (fun p => (dg 4 k c p : Int) * t (p : Int))) (p : Int) = some (sumR k c t) := by
    intro fu
    induction fu with
    | zero => intro p h1 h2; exact absurd h2 (by omega)
    | succ fu ih =>
      intro p h1 h2
      show F_X6_sumBy_b5_body (k : Int) mk (F_X6_sumBy_b5 (k : Int) mk fu) (c : Int) m _ (p : Int) = _
      unfold F_X6_sumBy_b5_body
      refine G_i (by omega) ?_
      by_cases z : (k : Int) ≤ (p : Int)
      · refine if_i z ?_
        obtain rfl : p = k := by omega
        rfl
      · refine el_i z (Ob_i (digit_ok (B := 4) (by omega) (by omega) (by omega) hc) (Bd_i (G_i (by omega) (Bd_i ?_))))
        have e9 : mk (6 * m + (p : Int)).toNat = t (p : Int) := he (p : Int) (by omega) (by omega)
        rw [e9]
        exact Bd_i (Bd_i (ih (p + 1) (by omega) (by omega)))
  unfold F_X6_sumBy
  exact key NN 0 (Nat.zero_le _) (by have := NN_gt (z := 100) (by omega); omega)
/-- a bound is that of one of the rows, or there is none -/
def BQ (k p : Nat) (l : List Nat) (tok : Nat → Int) (r : Int) : Prop := r = -1 ∨ ∃ c, c ∈ l ∧ dg 4 k c p ≠ 0 ∧ r = sumR k c (tk tok) / (dg 4 k c p : Int)
theorem bound_ok {k p : Nat} {l : List Nat} {tok le fd : Nat → Int} (hk : k ≤ 6) (hp : p < k) (hl : l.length ≤ 580) (hA : Arr (enB 4 k) le l) (hF : Arr idI fd l) (hb : ∀ c, c ∈ l → c < 2147483648) (ht : tOk (k : Int) (tk tok)) :
    ∃ r, F_X5_boundByRows (p : Int) (k : Int) (pk (cut (k : Int) (tk tok))) (l.length : Int) le = some r ∧ ((-1 ≤ r ∧ r ≤ 2000) ∧ BQ k p l tok r ∧ ∀ mk : Nat → Int, ∃ mk', F_X6_boundOf (p : Int) (l.length : Int) (k : Int) tok fd mk = some (r, mk') ∧ eqP (k : Int) (row mk' 0) (tk tok) ∧ ∀ j : Nat, (k : Int) ≤ j → mk' j = mk j) := by
  have key : ∀ (fu i : Nat) (v : Int), i ≤ l.length → l.length - i < fu → ((-1 ≤ v ∧ v ≤ 2000) ∧ BQ k p l tok v) → ∃ r, F_X5_boundByRows_b4 (k : Int) (pk (cut (k : Int) (tk tok))) (l.length : Int) le fu (p : Int) v (i : Int) = some r ∧ (((-1 ≤ r ∧ r ≤ 2000) ∧ BQ k p l tok r) ∧ ∀ (fm : Nat) (mk : Nat → Int), l.length - i < fm → eqP (k : Int) (row mk 0) (tk tok) → F_X6_boundOf_b9 (k : Int) tok fd fm (p : Int) (l.length : Int) v (i : Int) mk = some (r, mk)) := by
    intro fu
    induction fu with
    | zero => intro i v h1 h2; exact absurd h2 (by omega)
    | succ fu ih =>
      intro i v h1 h2 h3
      have h3a := h3.1
      show ∃ r, F_X5_boundByRows_b4_body (k : Int) (pk (cut (k : Int) (tk tok))) (l.length : Int) le (F_X5_boundByRows_b4 (k : Int) (pk (cut (k : Int) (tk tok))) (l.length : Int) le fu) (p : Int) v (i : Int) = some r ∧ _
      unfold F_X5_boundByRows_b4_body
      refine G_e (by omega) ?_
      by_cases z : (l.length : Int) ≤ (i : Int)
      · refine if_e z (so_e ⟨h3, fun fm mk f1 _ => ?_⟩)
        obtain ⟨fm, rfl⟩ : ∃ j, fm = j + 1 := ⟨fm - 1, by omega⟩
        show F_X6_boundOf_b9_body (k : Int) tok fd (F_X6_boundOf_b9 (k : Int) tok fd fm) (p : Int) (l.length : Int) v (i : Int) mk = _
        unfold F_X6_boundOf_b9_body
        exact G_i (by omega) (if_i z rfl)
      · have hi : i < l.length := by omega
        obtain ⟨c, hcl, c1, c2⟩ := Arr_get (x := (i : Int)) hA (by omega)
        have c3 := c2 idI fd hF
        have c4 := hb c hcl
        have hd := dg_lt (B := 4) (k := k) (c := c) (p := p) (by omega)
        have hS := sumR_b (c := c) hk ht
        -- the reference's step
        have ref : ∀ (v' : Int) (r : Int), (∀ (fm : Nat) (mk : Nat → Int), l.length - (i + 1) < fm → eqP (k : Int) (row mk 0) (tk tok) → F_X6_boundOf_b9 (k : Int) tok fd fm (p : Int) (l.length : Int) v' ((i : Int) + 1) mk = some (r, mk)) → ((dg 4 k c p = 0 ∧ v' = v) ∨ (dg 4 k c p ≠ 0 ∧ v' = if v = -1 then sumR k c (tk tok) / (dg 4 k c p : Int) else if v ≤ sumR k c (tk tok) / (dg 4 k c p : Int) then v else sumR k c (tk tok) / (dg 4 k c p : Int))) → ∀ (fm : Nat) (mk : Nat → Int), l.length - i < fm → eqP (k : Int) (row mk 0) (tk tok) → F_X6_boundOf_b9 (k : Int) tok fd fm (p : Int) (l.length : Int) v (i : Int) mk = some (r, mk) := fun v' r hr hv fm mk f1 f2 => by
          obtain ⟨fm, rfl⟩ : ∃ j, fm = j + 1 := ⟨fm - 1, by omega⟩
          show F_X6_boundOf_b9_body (k : Int) tok fd (F_X6_boundOf_b9 (k : Int) tok fd fm) (p : Int) (l.length : Int) v (i : Int) mk = _
          have go := hr fm mk (by omega) f2
          unfold F_X6_boundOf_b9_body
          refine G_i (by omega) (el_i z (G_i (by omega) (Bd_i ?_)))
          rw [c3]
          refine Ob_i (digit_ok (B := 4) (by omega) (by omega) hp c4) (G_i (by omega) ?_)
          unfold F_X6_boundOf_b57
          rcases hv with ⟨y, y2⟩ | ⟨y, y2⟩
          · subst y2
            exact if_i (by omega) (G_i (by omega) (if_i (by omega) go))
          · have q0 : 0 ≤ sumR k c (tk tok) / (dg 4 k c p : Int) := Int.ediv_nonneg hS.1 (by omega)
            have q1 : sumR k c (tk tok) / (dg 4 k c p : Int) ≤ sumR k c (tk tok) := Int.ediv_le_self _ hS.1
            refine el_i (by omega) (G_i (by omega) (Bd_i ?_))
            show Ob (F_X6_sumBy (c : Int) 0 (k : Int) mk) _ = _
            refine Ob_i (sumBy_ok hk c4 (by omega) f2) (G_i (by omega) ?_)
            rw [iDiv_ok (by omega) (by omega)]
            refine G_i (by omega) (el_i (by omega) (G_i (by omega) ?_))
            by_cases x : v = -1
            · rw [if_pos x] at y2
              subst y2
              exact if_i x go
            · rw [if_neg x] at y2
              refine el_i x (G_i (by omega) ?_)
              by_cases t : v ≤ sumR k c (tk tok) / (dg 4 k c p : Int)
              · rw [if_pos t] at y2
                subst y2
                exact if_i t go
              · rw [if_neg t] at y2
                subst y2
                exact el_i t go
        have N : F_X0_numberOf (i : Int) (p : Int) 580 (l.length : Int) le = some ((dg 4 k c p : Nat) : Int) := numberOf_ok (m := 3) (by omega) (by omega) hp (by omega) (by omega) (by omega) c1
        refine el_e z (Ob_e N (G_e (by omega) ?_))
        by_cases y : dg 4 k c p = 0
        · obtain ⟨r, r1, r2, r3⟩ := ih (i + 1) v (by omega) (by omega) h3
          exact if_e (by omega) ⟨r, r1, r2, ref v r r3 (Or.inl ⟨y, rfl⟩)⟩
        · have q0 : 0 ≤ sumR k c (tk tok) / (dg 4 k c p : Int) := Int.ediv_nonneg hS.1 (by omega)
          have q1 : sumR k c (tk tok) / (dg 4 k c p : Int) ≤ sumR k c (tk tok) := Int.ediv_le_self _ hS.1
          refine el_e (by omega) (Ob_e (sumOfRow_ok hk ht (by omega) (by omega) c1) (G_e (by omega) (Bd_e ?_)))
          rw [iDiv_ok (by omega) (by omega)]
          refine G_e (by omega) ?_
          by_cases x : v = -1
          · obtain ⟨r, r1, r2, r3⟩ := ih (i + 1) (sumR k c (tk tok) / (dg 4 k c p : Int)) (by omega) (by omega) ⟨by omega, Or.inr ⟨c, hcl, y, rfl⟩⟩
            exact if_e x ⟨r, r1, r2, ref _ r r3 (Or.inr ⟨y, by rw [if_pos x]⟩)⟩
          · refine el_e x ?_
            unfold F_J9_min_7cf53
            by_cases t : sumR k c (tk tok) / (dg 4 k c p : Int) < v
            · obtain ⟨r, r1, r2, r3⟩ := ih (i + 1) (sumR k c (tk tok) / (dg 4 k c p : Int)) (by omega) (by omega) ⟨by omega, Or.inr ⟨c, hcl, y, rfl⟩⟩
              exact Ob_e (G_i (by omega) (if_i t rfl)) ⟨r, r1, r2, ref _ r r3 (Or.inr ⟨y, by rw [if_neg x, if_neg (by omega)]⟩)⟩
            · obtain ⟨r, r1, r2, r3⟩ := ih (i + 1) v (by omega) (by omega) h3
              exact Ob_e (G_i (by omega) (el_i t rfl)) ⟨r, r1, r2, ref _ r r3 (Or.inr ⟨y, by rw [if_neg x, if_pos (by omega)]⟩)⟩
  obtain ⟨r, r1, r2, r3⟩ := key NN 0 (-1) (Nat.zero_le _) (by have := NN_gt (z := 1000) (by omega); omega) ⟨by omega, Or.inl rfl⟩
  refine ⟨r, r1, r2.1, r2.2, fun mk => ?_⟩
  obtain ⟨m0, l1, l2, l3⟩ := layNow_ok (P := (k : Int)) (tok := tok) (marks := mk) (by omega)
  refine ⟨m0, ?_, l2, l3⟩
  unfold F_X6_boundOf
  exact Ob_i l1 (r3 NN m0 (by have := NN_gt (z := 1000) (by omega); omega) l2)
theorem op_mostByRows {k n : Nat} {w le adm fd tok mk : Nat → Int} {sh ss cnt wd v th x : Int} {su : Int64} {col : Nat → Int64} (hw : wOk w) (hk : k ≤ 6) (hn : n ≤ 8) (hsh : 0 ≤ sh ∧ sh < 1000000) (hx : inR x) (ht : tOk (k : Int) (tk tok)) (hR : RRow k n w sh ss cnt le) :
    ∃ rx rm, F_X5_mostByRows x (k : Int) (n : Int) (pk (cut (k : Int) (tk tok))) sh w 3 wd v su cnt ss le col adm = some rx ∧ F_X6_mostByRows x (k : Int) (n : Int) tok w th mk fd = some rm ∧ RRow k n w sh rx.2.2.2.2.2.2.1 rx.2.2.2.2.2.1 rx.2.2.2.2.2.2.2.1 ∧ ((rx.1 = 0 ∧ rm.2.1 = 0 ∧ rx.2.1 = rm.1 ∧ inR rx.2.1) ∨ (rx.1 = 3 ∧ rm.2.1 = 1)) := by
  obtain ⟨rp, p1, p2⟩ := isPlace_ok (x := x) (P := (k : Int)) hx (by omega)
  by_cases d : 0 ≤ x ∧ x < (k : Int)
  · obtain ⟨⟨wd1, v1, su1, c1, s1, le1, col1, adm1⟩, g1, g2, g3⟩ := refreshRows_ok (wd := wd) (v := v) (su := su) (col := col) (adm := adm) hw hk hn hsh hR
    obtain ⟨⟨nn, f1⟩, k1, k2, k3⟩ := leastRows_ok (f0 := fd) hw hk hn
    have hl := rows_len (n := n) (w := w) hk (Nat.le_refl (4 ^ k))
    have h9 := g3.1
    have hpw := p4_le (k := k) hk
    dsimp only at g2 g3 k2 k3 h9
    have hRS : RRow k n w sh s1 c1 le1 := ⟨by omega, fun _ => g3⟩
    have hrp : rp = 1 := by
      rcases p2 with q | q
      · exact q.1
      · exact absurd d q.2
    obtain ⟨p, rfl⟩ : ∃ p : Nat, x = (p : Int) := ⟨x.toNat, by omega⟩
    obtain ⟨r, r1, r2, -, r3⟩ := bound_ok (p := p) hk (by omega) hl g3.2 k3 (fun c hc => by have := (kp_mem _ c hc).1; omega) ht
    obtain ⟨mk', m1, m2, m3⟩ := r3 mk
    rw [← h9] at r1
    rw [← k2] at m1
    refine ⟨(0, r, wd1, v1, su1, c1, s1, le1, col1, adm1), (r, 0, mk', f1), ?_, ?_, hRS, Or.inl ⟨rfl, rfl, rfl, by dsimp only; omega⟩⟩
    · unfold F_X5_mostByRows
      exact Ob_i (needPlace_ok hx (by omega)) (if_i (if_pos d) (Ob_i g1 (Ob_i r1 rfl)))
    · unfold F_X6_mostByRows F_X6_mostByRows_b14
      exact Ob_i p1 (G_i (by omega) (el_i (by omega) (Ob_i goesWell_0 (G_i (by omega) (el_i (by omega) (Ob_i k1 (Ob_i m1 rfl)))))))
  · have hrp : rp = 0 := by
      rcases p2 with q | q
      · exact absurd q.2 d
      · exact q.1
    refine ⟨(3, 0, wd, v, su, cnt, ss, le, col, adm), (0, 1, mk, fd), ?_, ?_, hR, Or.inr ⟨rfl, rfl⟩⟩
    · unfold F_X5_mostByRows
      refine Ob_i (needPlace_ok hx (by omega)) ?_
      rw [if_neg d]
      exact el_i (by omega) rfl
    · unfold F_X6_mostByRows F_X6_mostByRows_b14
      exact Ob_i p1 (G_i (by omega) (if_i hrp (Ob_i (goesWell_n (by omega) (by omega)) (G_i (by omega) (if_i rfl rfl)))))
