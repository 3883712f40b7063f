/-! the call keeps -/
theorem NR_rows {P F n : Int} {found : Nat → Int64} {de fb mk mk' wh by_ : Nat → Int} (h : NR P F n found de fb mk wh by_) (e : ∀ m : Int, 0 ≤ m → m < n → eqP P (row mk' m) (row mk m)) : NR P F n found de fb mk' wh by_ := by
  refine ⟨fun k k1 k2 => ?_, fun j k j1 j2 j3 z => ?_, h.2.2⟩
  · have h1 := h.1 k k1 k2
    exact ⟨fun p p1 p2 => by rw [e k k1 k2 p p1 p2]; exact h1.1 p p1 p2, h1.2.trans (cut_eq (fun p p1 p2 => (e k k1 k2 p p1 p2).symm))⟩
  · refine h.2.1 j k j1 j2 j3 (fun p p1 p2 => ?_)
    have := z p p1 p2
    rw [e j j1 (by omega) p p1 p2, e k (by omega) j3 p p1 p2] at this
    exact this
def keA (k : Nat) (l : List Nat) (tok mk : Nat → Int) (n : Int) : Prop := ∀ m : Int, 0 ≤ m → m < n → ∀ c, c ∈ l → sumR k c (row mk m) = sumR k c (tk tok)
theorem rowsKeep_ok {k : Nat} {F n : Int} {l : List Nat} {tok le de fb mk wh by_ : Nat → Int} {found : Nat → Int64} (hk : k ≤ 6) (hl : l.length ≤ 580) (hA : Arr (enB 4 k) le l) (ht : tOk (k : Int) (tk tok)) (hn : 1 ≤ n ∧ n ≤ 300) (h : NR (k : Int) F n found de fb mk wh by_) :
    ∃ r, F_X5_rowsKeepTheirSums (k : Int) (pk (cut (k : Int) (tk tok))) n found (l.length : Int) le = some r ∧ isB r (keA k l tok mk n) := by
  have inner : ∀ (ag2 : Int → Option Int) (i : Nat) (hi : i < l.length), ∀ (fu : Nat) (m : Int), 0 ≤ m → m ≤ n → n - m < fu → (∀ m' : Int, 0 ≤ m' → m' < m → sumR k l[i] (row mk m') = sumR k l[i] (tk tok)) → ((∀ m' : Int, 0 ≤ m' → m' < n → sumR k l[i] (row mk m') = sumR k l[i] (tk tok)) ∧ F_X5_rowsKeepTheirSums_b28 (k : Int) (pk (cut (k : Int) (tk tok))) n found (l.length : Int) le ag2 fu (i : Int) (sumR k l[i] (tk tok)) m = ag2 ((i : Int) + 1)) ∨ ((¬ ∀ m' : Int, 0 ≤ m' → m' < n → sumR k l[i] (row mk m') = sumR k l[i] (tk tok)) ∧ F_X5_rowsKeepTheirSums_b28 (k : Int) (pk (cut (k : Int) (tk tok))) n found (l.length : Int) le ag2 fu (i : Int) (sumR k l[i] (tk tok)) m = some 0) := by
    intro ag2 i hi fu
    induction fu with
    | zero => intro m h1 h2 h3; exact absurd h3 (by omega)
    | succ fu ih =>
      intro m h1 h2 h3 h4
      show (_ ∧ F_X5_rowsKeepTheirSums_b28_body (k : Int) (pk (cut (k : Int) (tk tok))) n found (l.length : Int) le ag2 (F_X5_rowsKeepTheirSums_b28 (k : Int) (pk (cut (k : Int) (tk tok))) n found (l.length : Int) le ag2 fu) (i : Int) (sumR k l[i] (tk tok)) m = _) ∨ (_ ∧ F_X5_rowsKeepTheirSums_b28_body (k : Int) (pk (cut (k : Int) (tk tok))) n found (l.length : Int) le ag2 (F_X5_rowsKeepTheirSums_b28 (k : Int) (pk (cut (k : Int) (tk tok))) n found (l.length : Int) le ag2 fu) (i : Int) (sumR k l[i] (tk tok)) m = _)
      unfold F_X5_rowsKeepTheirSums_b28_body
      by_cases z : n ≤ m
      · exact Or.inl ⟨fun m' a b => h4 m' a (by omega), G_i (by omega) (if_i z (Bd_i rfl))⟩
      · obtain ⟨a1, a2⟩ := h.1 m h1 (by omega)
        have MA : F_X1_markingAt m n found = some (pk (cut (k : Int) (row mk m))) := by
          unfold F_X1_markingAt
          refine G_i (by omega) (el_i (by omega) (G_i (by omega) (el_i (by omega) (G_i (by omega) (Bd_i ?_)))))
          rw [a2]
        have SR := sumOfRow_ok (x := (i : Int)) (cnt := (l.length : Int)) (c := l[i]) hk a1 (by omega) (by omega) (by rw [Int.toNat_natCast]; exact hA i hi)
        have b1 := sumR_b (c := l[i]) hk a1
        have b2 := sumR_b (c := l[i]) hk ht
        by_cases y : sumR k l[i] (row mk m) = sumR k l[i] (tk tok)
        · rcases ih (m + 1) (by omega) (by omega) (by omega) (fun m' q1 q2 => by
            by_cases t : m' = m
            · rw [t]; exact y
            · exact h4 m' q1 (by omega)) with ⟨c1, c2⟩ | ⟨c1, c2⟩
          · exact Or.inl ⟨c1, G_i (by omega) (el_i z (Ob_i MA (Ob_i SR (G_i (by omega) (if_i y (Bd_i c2))))))⟩
          · exact Or.inr ⟨c1, G_i (by omega) (el_i z (Ob_i MA (Ob_i SR (G_i (by omega) (if_i y (Bd_i c2))))))⟩
        · exact Or.inr ⟨fun q => y (q m h1 (by omega)), G_i (by omega) (el_i z (Ob_i MA (Ob_i SR (G_i (by omega) (el_i y (G_i (Or.inl rfl) rfl))))))⟩
  have outer : ∀ (fu i : Nat), i ≤ l.length → l.length - i < fu → (∀ (j : Nat) (hj : j < l.length), j < i → ∀ m' : Int, 0 ≤ m' → m' < n → sumR k l[j] (row mk m') = sumR k l[j] (tk tok)) → ∃ r, F_X5_rowsKeepTheirSums_b2 (k : Int) (pk (cut (k : Int) (tk tok))) n found (l.length : Int) le fu (i : Int) = some r ∧ isB r (keA k l tok mk n) := by
    intro fu
    induction fu with
    | zero => intro i h1 h2; exact absurd h2 (by omega)
    | succ fu ih =>
      intro i h1 h2 h3
      show ∃ r, F_X5_rowsKeepTheirSums_b2_body (k : Int) (pk (cut (k : Int) (tk tok))) n found (l.length : Int) le (F_X5_rowsKeepTheirSums_b2 (k : Int) (pk (cut (k : Int) (tk tok))) n found (l.length : Int) le fu) (i : Int) = some r ∧ _
      unfold F_X5_rowsKeepTheirSums_b2_body
      refine G_e (by omega) ?_
      by_cases z : (l.length : Int) ≤ (i : Int)
      · refine if_e z (G_e (Or.inr rfl) (so_e (Or.inl ⟨rfl, fun m m1 m2 c hc => ?_⟩)))
        obtain ⟨j, hj, rfl⟩ := List.getElem_of_mem hc
        exact h3 j hj (by omega) m m1 m2
      · have hi : i < l.length := by omega
        have SN := sumOfRow_ok (x := (i : Int)) (cnt := (l.length : Int)) (c := l[i]) hk ht (by omega) (by omega) (by rw [Int.toNat_natCast]; exact hA i hi)
        refine el_e z (Ob_e SN ?_)
        rcases inner (F_X5_rowsKeepTheirSums_b2 (k : Int) (pk (cut (k : Int) (tk tok))) n found (l.length : Int) le fu) i hi NN 0 (by omega) (by omega) (NN_gt (by omega)) (fun m' a b => absurd b (by omega)) with ⟨c1, c2⟩ | ⟨c1, c2⟩
        · rw [c2]
          refine ih (i + 1) (by omega) (by omega) (fun j hj q => ?_)
          by_cases t : j = i
          · subst t; exact c1
          · exact h3 j hj (by omega)
        · rw [c2]
          exact so_e (Or.inr ⟨rfl, fun q => c1 (fun m' a b => q m' a b l[i] (List.getElem_mem hi))⟩)
  unfold F_X5_rowsKeepTheirSums
  exact outer NN 0 (Nat.zero_le _) (by have := NN_gt (z := 1000) (by omega); omega) (fun j _ q => absurd q (Nat.not_lt_zero j))
theorem op_keeps {k n : Nat} {sh st rs gn pairs ends tg wd v cnt ss th : Int} {su : Int64} {tok w le adm fd slots de fb ta la ne mk wh by_ ld : Nat → Int} {need bo em tak gi found col : Nat → Int64} (hp : packed (n : Int) w need bo em tak gi) (hw : wOk w) (ho : wOut (k : Int) w) (hk : k ≤ 6) (hn : n ≤ 8) (hsh : 0 ≤ sh ∧ sh < 1000000) (hst : 0 ≤ st ∧ st < 1000000) (ht : tOk (k : Int) (tk tok)) (hR : RRow k n w sh ss cnt le) (hG : RS (k : Int) (n : Int) tok w st rs gn pairs ends tg found slots de fb ta la ne) :
    ∃ rx rm, F_X5_keeps (k : Int) (n : Int) (pk (cut (k : Int) (tk tok))) sh st w need bo em tak gi 3 rs gn pairs ends tg found slots de fb ta la ne wd v su cnt ss le col adm = some rx ∧ F_X6_keeps (k : Int) (n : Int) tok w th mk wh by_ ld fd = some rm ∧ RS (k : Int) (n : Int) tok w st rx.2.1 rx.2.2.1 rx.2.2.2.1 rx.2.2.2.2.1 rx.2.2.2.2.2.1 rx.2.2.2.2.2.2.1 rx.2.2.2.2.2.2.2.1 rx.2.2.2.2.2.2.2.2.1 rx.2.2.2.2.2.2.2.2.2.1 rx.2.2.2.2.2.2.2.2.2.2.1 rx.2.2.2.2.2.2.2.2.2.2.2.1 rx.2.2.2.2.2.2.2.2.2.2.2.2.1 ∧ RRow k n w sh rx.2.2.2.2.2.2.2.2.2.2.2.2.2.2.2.2.2.1 rx.2.2.2.2.2.2.2.2.2.2.2.2.2.2.2.2.1 rx.2.2.2.2.2.2.2.2.2.2.2.2.2.2.2.2.2.2.1 ∧ rx.1 = rm.1 ∧ inR rx.1 ∧ rm.2.1 = 0 ∧ ∀ q, F_X6_findAll (k : Int) (n : Int) tok w mk wh by_ ld = some q → (q.1 = -1 ∨ (keA k (kB 4 k n (gRow w) (adRow n w) (4 ^ k)) tok q.2.1 q.1 ∧ ∀ p : Nat, p < k → ∀ c, c ∈ kB 4 k n (gRow w) (adRow n w) (4 ^ k) → dg 4 k c p ≠ 0 → ∀ v : Int, F_X6_mostOf (p : Int) q.1 q.2.1 = some v → v ≤ sumR k c (tk tok) / (dg 4 k c p : Int))) → rx.1 = 1 := by
  obtain ⟨⟨rs', n', pa', en', tg', fo', sl', de', fb', ta', la', ne'⟩, g1, g2, g3⟩ := refresh_ok (st := st) (rs := rs) (n := gn) (pairs := pairs) (ends := ends) (tg := tg) (found := found) (slots := slots) (de := de) (fb := fb) (ta := ta) (la := la) (ne := ne) hp hw ho (by omega) (by omega) ht (by have := hG.1; omega) (by omega) hG.2
  obtain ⟨⟨wd1, v1, su1, c1, s1, le1, col1, adm1⟩, h1, h2, h3⟩ := refreshRows_ok (wd := wd) (v := v) (su := su) (col := col) (adm := adm) hw hk hn hsh hR
  obtain ⟨⟨nn, f1⟩, k1, k2, k3⟩ := leastRows_ok (f0 := fd) hw hk hn
  have hl := rows_len (n := n) (w := w) hk (Nat.le_refl (4 ^ k))
  have h9 := h3.1
  have hpw := p4_le (k := k) hk
  dsimp only at g2 g3 h2 h3 k2 k3 h9
  have hRR : RRow k n w sh s1 c1 le1 := ⟨by omega, fun _ => h3⟩
  have hRS : RS (k : Int) (n : Int) tok w st rs' n' pa' en' tg' fo' sl' de' fb' ta' la' ne' := ⟨by omega, fun _ => g3⟩
  obtain ⟨⟨qn, qm, qw, qb, ql⟩, j1, j2⟩ := g3 mk wh by_ ld
  have hA := h3.2
  generalize hL : kB 4 k n (gRow w) (adRow n w) (4 ^ k) = l at hl h9 k2 k3 hA
  have hbl : ∀ c, c ∈ l → c < 2147483648 := fun c hc => by
    rw [← hL] at hc
    have := (kp_mem _ c hc).1
    omega
  subst h9 k2
  have bdE : ∀ p : Nat, ∃ r : Int, p < k → F_X5_boundByRows (p : Int) (k : Int) (pk (cut (k : Int) (tk tok))) (l.length : Int) le1 = some r ∧ ((-1 ≤ r ∧ r ≤ 2000) ∧ BQ k p l tok r ∧ ∀ mk : Nat → Int, ∃ mk', F_X6_boundOf (p : Int) (l.length : Int) (k : Int) tok f1 mk = some (r, mk') ∧ eqP (k : Int) (row mk' 0) (tk tok) ∧ ∀ j : Nat, (k : Int) ≤ j → mk' j = mk j) := fun p => by
    by_cases q : p < k
    · obtain ⟨r, r1⟩ := bound_ok (p := p) hk q hl hA k3 hbl ht
      exact ⟨r, fun _ => r1⟩
    · exact ⟨0, fun z => absurd z q⟩
  obtain ⟨bd, hbd⟩ := Classical.skolem.mp bdE
  -- the reference's second loop
  have ref2 : ∀ (ms : Nat → Int) (C : Prop) (N : Int), inR N → (∀ (p : Nat) (mk' : Nat → Int), p < k → eqP (k : Int) (row mk' 0) (tk tok) → (∀ j : Nat, (k : Int) ≤ j → mk' j = qm j) → F_X6_mostOf (p : Int) N mk' = some (ms p) ∧ inR (ms p)) → ∀ (fu p : Nat) (d : Int) (mk' : Nat → Int), p ≤ k → k - p < fu → (∀ j : Nat, (k : Int) ≤ j → mk' j = qm j) → isB d (C ∧ ∀ q : Nat, q < p → (bd q = -1 ∨ ms q ≤ bd q)) → ∃ rm, F_X6_keeps_b89 (k : Int) (n : Int) tok w fu (l.length : Int) N d (p : Int) 0 mk' qw qb ql f1 = some rm ∧ (isB rm.1 (C ∧ ∀ q : Nat, q < k → (bd q = -1 ∨ ms q ≤ bd q)) ∧ rm.2.1 = 0) := by
    intro ms C N hN hms fu
    induction fu with
    | zero => intro p d mk' q1 q2; exact absurd q2 (by omega)
    | succ fu ih =>
      intro p d mk' q1 q2 q3 q4
      show ∃ rm, F_X6_keeps_b89_body (k : Int) (n : Int) tok w (F_X6_keeps_b89 (k : Int) (n : Int) tok w fu) (l.length : Int) N d (p : Int) 0 mk' qw qb ql f1 = some rm ∧ _
      unfold F_X6_keeps_b89_body
      refine G_e (by omega) ?_
      by_cases z : (k : Int) ≤ (p : Int)
      · obtain rfl : p = k := by omega
        exact if_e z (G_e (isB_01 q4) (so_e ⟨q4, rfl⟩))
      · obtain ⟨r1, r2, -, r3⟩ := hbd p (by omega)
        obtain ⟨mk2, m1, m2, m3⟩ := r3 mk'
        have m4 : ∀ j : Nat, (k : Int) ≤ j → mk2 j = qm j := fun j hj => (m3 j hj).trans (q3 j hj)
        obtain ⟨M1, M2⟩ := hms p mk2 (by omega) m2 m4
        have ext : (bd p = -1 ∨ ms p ≤ bd p) → (C ∧ ∀ q : Nat, q < p → (bd q = -1 ∨ ms q ≤ bd q)) → (C ∧ ∀ q : Nat, q < p + 1 → (bd q = -1 ∨ ms q ≤ bd q)) := fun a b => ⟨b.1, fun q hq => by
          by_cases t : q = p
          · rw [t]; exact a
          · exact b.2 q (by omega)⟩
        refine el_e z (Ob_e m1 ?_)
        rcases q4 with ⟨rfl, q4⟩ | ⟨rfl, q4⟩
        · refine G_e (by omega) (el_e (by omega) (G_e (by dsimp only; omega) ?_))
          by_cases y : bd p = -1
          · exact if_e y (ih (p + 1) 1 mk2 (by omega) (by omega) m4 (Or.inl ⟨rfl, ext (Or.inl y) q4⟩))
          · refine el_e y (Ob_e M1 (G_e ⟨M2, by dsimp only; omega⟩ ?_))
            by_cases x : bd p < ms p
            · exact if_e x (ih (p + 1) 0 mk2 (by omega) (by omega) m4 (Or.inr ⟨rfl, fun t => by have := t.2 p (by omega); omega⟩))
            · exact el_e x (ih (p + 1) 1 mk2 (by omega) (by omega) m4 (Or.inl ⟨rfl, ext (Or.inr (by omega)) q4⟩))
        · exact G_e (by omega) (if_e rfl (ih (p + 1) 0 mk2 (by omega) (by omega) m4 (Or.inr ⟨rfl, fun t => q4 ⟨t.1, fun q hq => t.2 q (by omega)⟩⟩)))
  rcases j2 with ⟨a1, a2⟩ | ⟨a1, a2, a3, -⟩
  · dsimp only at a2
    subst a2
    have hm : ∀ (p : Nat) (mk' : Nat → Int), p < k → eqP (k : Int) (row mk' 0) (tk tok) → (∀ j : Nat, (k : Int) ≤ j → mk' j = qm j) → F_X6_mostOf (p : Int) (-1) mk' = some (-1) ∧ inR (-1) := fun p mk' _ _ _ => by
      refine ⟨?_, by omega⟩
      unfold F_X6_mostOf
      obtain ⟨j, hj⟩ : ∃ j, NN = j + 1 := ⟨NN - 1, by have := NN_gt (z := 1) (by omega); omega⟩
      rw [hj]
      show F_X6_mostOf_b5_body mk' (F_X6_mostOf_b5 mk' j) (p : Int) (-1) (-1) 0 = _
      unfold F_X6_mostOf_b5_body
      exact G_i (by omega) (if_i (by omega) rfl)
    obtain ⟨rm, b1, b2, b3⟩ := ref2 (fun _ => -1) True (-1) (by omega) hm NN 0 1 qm (Nat.zero_le _) (by have := NN_gt (z := 100) (by omega); omega) (fun j _ => rfl) (Or.inl ⟨rfl, True.intro, fun q hq => absurd hq (Nat.not_lt_zero q)⟩)
    have e1 : rm.1 = 1 := by
      rcases b2 with q | q
      · exact q.1
      · exact absurd ⟨True.intro, fun p hp => by have := (hbd p hp).2.1; show bd p = -1 ∨ -1 ≤ bd p; omega⟩ q.2
    refine ⟨(1, rs', n', pa', en', tg', fo', sl', de', fb', ta', la', ne', wd1, v1, su1, (l.length : Int), s1, le1, col1, adm1), rm, ?_, ?_, hRS, hRR, e1.symm, by dsimp only; omega, b3, fun _ _ _ => rfl⟩
    · unfold F_X5_keeps F_X5_keeps_b35
      exact Ob_i g1 (Ob_i h1 (G_i (by dsimp only; omega) (el_i (by dsimp only; omega) (G_i (Or.inr rfl) rfl))))
    · unfold F_X6_keeps
      refine Ob_i k1 (Ob_i j1 ?_)
      obtain ⟨j, hj⟩ : ∃ j, NN = j + 1 := ⟨NN - 1, by have := NN_gt (z := 1) (by omega); omega⟩
      have b1' : F_X6_keeps_b21_body (k : Int) (n : Int) tok w (F_X6_keeps_b21 (k : Int) (n : Int) tok w j) (l.length : Int) (-1) 1 1 0 qm qw qb ql f1 = some rm := by
        unfold F_X6_keeps_b21_body
        exact G_i (by omega) (if_i (by omega) b1)
      dsimp only
      rw [hj]
      exact b1'
  · dsimp only at a2 a3
    obtain ⟨hn1, hH, hN, hE, hw0, he0⟩ := a3
    subst a2
    have msE : ∀ p : Nat, ∃ r : Int, p < k → F_X1_mostAt (p : Int) qn fo' = some r ∧ F_X6_mostOf (p : Int) qn qm = some r ∧ 0 ≤ r ∧ r ≤ 99 := fun p => by
      by_cases q : p < k
      · obtain ⟨r, r1⟩ := mostAt_ok (p := (p : Int)) hN hn1 (by omega) (by omega)
        exact ⟨r, fun _ => r1⟩
      · exact ⟨0, fun z => absurd z q⟩
    obtain ⟨ms, hms⟩ := Classical.skolem.mp msE
    have hm : ∀ (p : Nat) (mk' : Nat → Int), p < k → eqP (k : Int) (row mk' 0) (tk tok) → (∀ j : Nat, (k : Int) ≤ j → mk' j = qm j) → F_X6_mostOf (p : Int) qn mk' = some (ms p) ∧ inR (ms p) := fun p mk' hpk e0 ej => by
      have hN' : NR (k : Int) (n : Int) qn fo' de' fb' mk' qw qb := NR_rows hN (fun m m1 m2 p p1 p2 => by
        by_cases t : m = 0
        · rw [t, e0 p p1 p2, he0 p p1 p2]
        · exact ej _ (by omega))
      obtain ⟨r, r1, r2, r3⟩ := mostAt_ok (p := (p : Int)) hN' hn1 (by omega) (by omega)
      have h8 := hms p hpk
      rw [r1] at h8
      have e := Option.some.inj h8.1
      subst e
      exact ⟨r2, by omega⟩
    obtain ⟨r5, x1, x2⟩ := rowsKeep_ok (F := (n : Int)) hk hl hA ht hn1 hN
    have pk_ok : ∀ (fu p : Nat), p ≤ k → k - p < fu → (∀ q : Nat, q < p → (bd q = -1 ∨ ms q ≤ bd q)) → ∃ r, F_X5_placesKeepTheirBounds_b2 (k : Int) (pk (cut (k : Int) (tk tok))) qn fo' (l.length : Int) le1 fu (p : Int) = some r ∧ isB r (∀ q : Nat, q < k → (bd q = -1 ∨ ms q ≤ bd q)) := by
      intro fu
      induction fu with
      | zero => intro p q1 q2; exact absurd q2 (by omega)
      | succ fu ih =>
        intro p q1 q2 q3
        show ∃ r, F_X5_placesKeepTheirBounds_b2_body (k : Int) (pk (cut (k : Int) (tk tok))) qn fo' (l.length : Int) le1 (F_X5_placesKeepTheirBounds_b2 (k : Int) (pk (cut (k : Int) (tk tok))) qn fo' (l.length : Int) le1 fu) (p : Int) = some r ∧ _
        unfold F_X5_placesKeepTheirBounds_b2_body
        refine G_e (by omega) ?_
        by_cases z : (k : Int) ≤ (p : Int)
        · obtain rfl : p = k := by omega
          exact if_e z (G_e (Or.inr rfl) (so_e (Or.inl ⟨rfl, q3⟩)))
        · obtain ⟨r1, r2, -⟩ := hbd p (by omega)
          obtain ⟨u1, -, u2⟩ := hms p (by omega)
          have go : (bd p = -1 ∨ ms p ≤ bd p) → ∃ r, F_X5_placesKeepTheirBounds_b38 (k : Int) (pk (cut (k : Int) (tk tok))) qn fo' (l.length : Int) le1 (F_X5_placesKeepTheirBounds_b2 (k : Int) (pk (cut (k : Int) (tk tok))) qn fo' (l.length : Int) le1 fu) (p : Int) = some r ∧ isB r (∀ q : Nat, q < k → (bd q = -1 ∨ ms q ≤ bd q)) := fun a => ih (p + 1) (by omega) (by omega) (fun q hq => by
            by_cases t : q = p
            · rw [t]; exact a
            · exact q3 q (by omega))
          refine el_e z (Ob_e r1 (G_e (by omega) ?_))
          by_cases y : bd p = -1
          · exact if_e y (go (Or.inl y))
          · refine el_e y (Ob_e u1 (G_e (by omega) ?_))
            by_cases x : ms p ≤ bd p
            · exact if_e x (go (Or.inr x))
            · exact el_e x (G_e (Or.inl rfl) (so_e (Or.inr ⟨rfl, fun t => by have := t p (by omega); omega⟩)))
    obtain ⟨r6, y1, y2⟩ := pk_ok NN 0 (Nat.zero_le _) (by have := NN_gt (z := 100) (by omega); omega) (fun q hq => absurd hq (Nat.not_lt_zero q))
    -- the class
    have cls : ∃ r, isB r (keA k l tok qm qn ∧ ∀ q : Nat, q < k → (bd q = -1 ∨ ms q ≤ bd q)) ∧ F_X5_keeps (k : Int) (n : Int) (pk (cut (k : Int) (tk tok))) sh st w need bo em tak gi 3 rs gn pairs ends tg found slots de fb ta la ne wd v su cnt ss le col adm = some (r, rs', qn, pa', en', tg', fo', sl', de', fb', ta', la', ne', wd1, v1, su1, (l.length : Int), s1, le1, col1, adm1) := by
      unfold F_X5_keeps F_X5_keeps_b35 F_X5_keeps_b39
      rcases x2 with ⟨rfl, x2⟩ | ⟨rfl, x2⟩
      · rcases y2 with ⟨rfl, y2⟩ | ⟨rfl, y2⟩
        · exact ⟨1, Or.inl ⟨rfl, x2, y2⟩, Ob_i g1 (Ob_i h1 (G_i (by dsimp only; omega) (if_i (by dsimp only; omega) (Ob_i x1 (G_i (by omega) (el_i (by omega) (Ob_i y1 (G_i (by omega) (el_i (by omega) (G_i (Or.inr rfl) rfl))))))))))⟩
        · exact ⟨0, Or.inr ⟨rfl, fun t => y2 t.2⟩, Ob_i g1 (Ob_i h1 (G_i (by dsimp only; omega) (if_i (by dsimp only; omega) (Ob_i x1 (G_i (by omega) (el_i (by omega) (Ob_i y1 (G_i (by omega) (if_i rfl (G_i (Or.inl rfl) rfl))))))))))⟩
      · exact ⟨0, Or.inr ⟨rfl, fun t => x2 t.1⟩, Ob_i g1 (Ob_i h1 (G_i (by dsimp only; omega) (if_i (by dsimp only; omega) (Ob_i x1 (G_i (by omega) (if_i rfl (G_i (Or.inl rfl) rfl)))))))⟩
    -- the reference's first loop
    have inner : ∀ (ag21 : Int → Int → Int → Int → Int → (Nat → Int) → (Nat → Int) → (Nat → Int) → (Nat → Int) → (Nat → Int) → Option (Int × (Int) × (Nat → Int) × (Nat → Int) × (Nat → Int) × (Nat → Int) × (Nat → Int))) (C : Prop) (m : Int), 0 ≤ m ∧ m < qn → ∀ (fu i : Nat) (d : Int), i ≤ l.length → l.length - i < fu → isB d (C ∧ ∀ (j : Nat) (hj : j < l.length), j < i → sumR k l[j] (row qm m) = sumR k l[j] (tk tok)) → ∃ e, isB e (C ∧ ∀ c, c ∈ l → sumR k c (row qm m) = sumR k c (tk tok)) ∧ F_X6_keeps_b30 (k : Int) (n : Int) tok w ag21 fu (l.length : Int) qn d m (i : Int) 0 qm qw qb ql f1 = ag21 (l.length : Int) qn e (m + 1) 0 qm qw qb ql f1 := by
      intro ag21 C m hm0 fu
      induction fu with
      | zero => intro i d q1 q2; exact absurd q2 (by omega)
      | succ fu ih =>
        intro i d q1 q2 q3
        show ∃ e, _ ∧ F_X6_keeps_b30_body (k : Int) (n : Int) tok w ag21 (F_X6_keeps_b30 (k : Int) (n : Int) tok w ag21 fu) (l.length : Int) qn d m (i : Int) 0 qm qw qb ql f1 = _
        unfold F_X6_keeps_b30_body
        by_cases z : (l.length : Int) ≤ (i : Int)
        · refine ⟨d, isB_iff q3 ⟨fun t => ⟨t.1, fun c hc => ?_⟩, fun t => ⟨t.1, fun j hj _ => t.2 _ (List.getElem_mem hj)⟩⟩, G_i (by omega) (if_i z (Bd_i rfl))⟩
          obtain ⟨j, hj, rfl⟩ := List.getElem_of_mem hc
          exact t.2 j hj (by omega)
        · have hi : i < l.length := by omega
          have eq9 : f1 ((i : Int)).toNat = ((l[i] : Nat) : Int) := by rw [Int.toNat_natCast]; exact k3 i hi
          have hc := hbl l[i] (List.getElem_mem hi)
          have tm := (hN.1 m hm0.1 hm0.2).1
          have s1 := sumBy_ok (c := l[i]) (m := m) (t := row qm m) (mk := qm) hk hc (by omega) (fun _ _ _ => rfl)
          have s2 := sumBy_ok (c := l[i]) (m := 0) (t := tk tok) (mk := qm) hk hc (by omega) he0
          have b1 := sumR_b (c := l[i]) hk tm
          have b2 := sumR_b (c := l[i]) hk ht
          rcases q3 with ⟨rfl, q3⟩ | ⟨rfl, q3⟩
          · by_cases y : sumR k l[i] (row qm m) = sumR k l[i] (tk tok)
            · obtain ⟨e, e1, e2⟩ := ih (i + 1) 1 (by omega) (by omega) (Or.inl ⟨rfl, q3.1, fun j hj q => by
                by_cases t : j = i
                · subst t; exact y
                · exact q3.2 j hj (by omega)⟩)
              refine ⟨e, e1, G_i (by omega) (el_i z (G_i (by omega) (el_i (by omega) (G_i (by omega) (Bd_i ?_)))))⟩
              rw [eq9]
              exact Ob_i s1 (G_i (by omega) (Bd_i (Ob_i s2 (G_i (by omega) (if_i y e2)))))
            · obtain ⟨e, e1, e2⟩ := ih (i + 1) 0 (by omega) (by omega) (Or.inr ⟨rfl, fun t => y (t.2 i hi (by omega))⟩)
              refine ⟨e, e1, G_i (by omega) (el_i z (G_i (by omega) (el_i (by omega) (G_i (by omega) (Bd_i ?_)))))⟩
              rw [eq9]
              exact Ob_i s1 (G_i (by omega) (Bd_i (Ob_i s2 (G_i (by omega) (el_i y e2)))))
          · obtain ⟨e, e1, e2⟩ := ih (i + 1) 0 (by omega) (by omega) (Or.inr ⟨rfl, fun t => q3 ⟨t.1, fun j hj q => t.2 j hj (by omega)⟩⟩)
            exact ⟨e, e1, G_i (by omega) (el_i z (G_i (by omega) (if_i rfl e2)))⟩
    have outer : ∀ (fu : Nat) (m d : Int), 1 ≤ m → m ≤ qn → qn - m < fu → isB d (∀ m' : Int, 1 ≤ m' → m' < m → ∀ c, c ∈ l → sumR k c (row qm m') = sumR k c (tk tok)) → ∃ rm, F_X6_keeps_b21 (k : Int) (n : Int) tok w fu (l.length : Int) qn d m 0 qm qw qb ql f1 = some rm ∧ (isB rm.1 (keA k l tok qm qn ∧ ∀ q : Nat, q < k → (bd q = -1 ∨ ms q ≤ bd q)) ∧ rm.2.1 = 0) := by
      intro fu
      induction fu with
      | zero => intro m d q1 q2 q3; exact absurd q3 (by omega)
      | succ fu ih =>
        intro m d q1 q2 q3 q4
        show ∃ rm, F_X6_keeps_b21_body (k : Int) (n : Int) tok w (F_X6_keeps_b21 (k : Int) (n : Int) tok w fu) (l.length : Int) qn d m 0 qm qw qb ql f1 = some rm ∧ _
        unfold F_X6_keeps_b21_body
        refine G_e (by omega) ?_
        by_cases z : qn ≤ m
        · refine if_e z ?_
          obtain rfl : m = qn := by omega
          refine ref2 ms (keA k l tok qm m) m (by omega) hm NN 0 d qm (Nat.zero_le _) (by have := NN_gt (z := 100) (by omega); omega) (fun j _ => rfl) (isB_iff q4 ⟨fun t => ⟨fun m' a b c hc => ?_, fun q hq => absurd hq (Nat.not_lt_zero q)⟩, fun t m' a b => t.1 m' (by omega) b⟩)
          by_cases y : m' = 0
          · rw [y]; exact sumR_cong he0
          · exact t m' (by omega) b c hc
        · refine el_e z ?_
          obtain ⟨e, e1, e2⟩ := inner (F_X6_keeps_b21 (k : Int) (n : Int) tok w fu) (∀ m' : Int, 1 ≤ m' → m' < m → ∀ c, c ∈ l → sumR k c (row qm m') = sumR k c (tk tok)) m (by omega) NN 0 d (Nat.zero_le _) (by have := NN_gt (z := 1000) (by omega); omega) (isB_iff q4 ⟨fun t => ⟨t, fun j _ q => absurd q (Nat.not_lt_zero j)⟩, fun t => t.1⟩)
          have e2' : F_X6_keeps_b30 (k : Int) (n : Int) tok w (F_X6_keeps_b21 (k : Int) (n : Int) tok w fu) NN (l.length : Int) qn d m 0 0 qm qw qb ql f1 = _ := e2
          rw [e2']
          refine ih (m + 1) e (by omega) (by omega) (by omega) (isB_iff e1 ⟨fun t m' a b => ?_, fun t => ⟨fun m' a b => t m' a (by omega), t m (by omega) (by omega)⟩⟩)
          by_cases y : m' = m
          · rw [y]; exact t.2
          · exact t.1 m' a (by omega)
    obtain ⟨r, c1, c2⟩ := cls
    obtain ⟨rm, b1, b2, b3⟩ := outer NN 1 1 (by omega) (by omega) (NN_gt (by omega)) (Or.inl ⟨rfl, fun m' a b => absurd b (by omega)⟩)
    have h01 := isB_01 c1
    refine ⟨_, rm, c2, ?_, hRS, hRR, isB_eq c1 b2, by dsimp only; omega, b3, fun q hq hh => ?_⟩
    rotate_left
    · obtain rfl : q = (qn, qm, qw, qb, ql) := Option.some.inj (hq.symm.trans j1)
      rcases c1 with ⟨c1, -⟩ | ⟨-, c1⟩
      · exact c1
      · refine absurd ?_ c1
        rcases hh with hh | ⟨hh, hp9⟩
        · exact absurd hh (by dsimp only; omega)
        · refine ⟨hh, fun p hp => ?_⟩
          rcases (hbd p hp).2.2.1 with z | ⟨c, z1, z2, z3⟩
          · exact Or.inl z
          · right
            rw [z3]
            exact hp9 p hp c z1 z2 _ (hms p hp).2.1
    unfold F_X6_keeps
    exact Ob_i k1 (Ob_i j1 b1)
