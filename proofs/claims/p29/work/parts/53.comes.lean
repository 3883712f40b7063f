/-! all that comes to the marked nodes is found by the chains -/
def BI (n F : Int) (ld : Nat → Int) (S : Int → Prop) (i q : Int) (mk qu : Nat → Int) : Prop :=
  MS n q mk qu ∧ (∀ x : Int, 0 ≤ x → x < n → mk x.toNat ≠ 0 → clo n F ld S x) ∧ (∀ y : Int, S y → 0 ≤ y ∧ y < n ∧ mk y.toNat ≠ 0) ∧ ∀ j : Int, 0 ≤ j → j < i → ∀ e : Nat, e < (8 * n).toNat → ((e % 8 : Nat) : Int) < F → ld e = qu j.toNat → mk (e / 8) ≠ 0
theorem chain_ok {n F i : Int} {ta la ne ld : Nat → Int} {S : Int → Prop} (hE : ER F (8 * n).toNat n ta la ne ld) (hn : 1 ≤ n ∧ n ≤ 300) (hi : 0 ≤ i) (ag2 : Int → Int → (Nat → Int) → (Nat → Int) → Option (Int × (Int) × (Nat → Int) × (Nat → Int))) :
    ∀ (fu E : Nat) (l3 q t : Int) (mk qu : Nat → Int), (E : Int) ≤ 8 * n → 0 ≤ l3 → l3 + E ≤ 2400 → E < fu → i < q → qu i.toNat = t → BI n F ld S i q mk qu → (∀ e : Nat, E ≤ e → e < (8 * n).toNat → ((e % 8 : Nat) : Int) < F → ld e = t → mk (e / 8) ≠ 0) →
      ∃ q' mk' qu', F_X1_allComeToMarked_b31 n la ne ag2 fu i (prv ld F t E) l3 q mk qu = ag2 (i + 1) q' mk' qu' ∧ BI n F ld S (i + 1) q' mk' qu' ∧ q ≤ q' := by
  intro fu
  induction fu with
  | zero => intro E l3 q t mk qu h1 h2 h3 h4; exact absurd h4 (by omega)
  | succ fu ih =>
    intro E l3 q t mk qu h1 h2 h3 h4 h5 h6 hB hD
    show ∃ q' mk' qu', F_X1_allComeToMarked_b31_body n la ne ag2 (F_X1_allComeToMarked_b31 n la ne ag2 fu) i (prv ld F t E) l3 q mk qu = ag2 (i + 1) q' mk' qu' ∧ _
    obtain ⟨hM, hs, hS, hd⟩ := hB
    rcases prv_spec (ld := ld) (F := F) (t := t) E with ⟨e1, e2⟩ | ⟨e, e1, e2, e3, e4, e5⟩
    · refine ⟨q, mk, qu, ?_, ⟨hM, hs, hS, fun j j1 j2 e g1 g2 g3 => ?_⟩, by omega⟩
      · rw [e1]
        unfold F_X1_allComeToMarked_b31_body F_X1_allComeToMarked_b70
        refine G_i (by omega) ?_
        by_cases c : 2400 ≤ l3
        · exact if_i c (Bd_i rfl)
        · exact el_i c (G_i (by omega) (if_i (by omega) (Bd_i rfl)))
      · by_cases q1 : j = i
        · rw [q1, h6] at g3
          rcases Nat.lt_or_ge e E with z | z
          · exact absurd g3 (e2 e z g2)
          · exact hD e z g1 g2 g3
        · exact hd j j1 (by omega) e g1 g2 g3
    · have hq := cnz_le (f := mk) n.toNat
      have hq2 := hM.2.1
      have hx : 0 ≤ ((e / 8 : Nat) : Int) ∧ ((e / 8 : Nat) : Int) < n := by omega
      have ht := hM.2.2.1 i hi h5
      rw [h6] at ht
      obtain ⟨r, g1, m1, m2, m3, m4, m5, m6⟩ := mark_ok hM hn hx
      obtain ⟨q1, mk1, qu1⟩ := r
      dsimp only at m1 m2 m3 m4 m5 m6
      rw [show (((e / 8 : Nat) : Int)).toNat = e / 8 from Int.toNat_natCast _] at m2 m3
      have hcx : clo n F ld S ((e / 8 : Nat) : Int) := fun C c1 c2 => by
        refine c2 _ ((e % 8 : Nat) : Int) hx.1 hx.2 (by omega) e3 ?_ ?_
        · rw [show (8 * ((e / 8 : Nat) : Int) + ((e % 8 : Nat) : Int)).toNat = e by omega, e4]; omega
        · rw [show (8 * ((e / 8 : Nat) : Int) + ((e % 8 : Nat) : Int)).toNat = e by omega, e4]
          exact hs t ht.1 ht.2.1 ht.2.2 C c1 c2
      have hB1 : BI n F ld S i q1 mk1 qu1 := by
        refine ⟨m1, fun x x1 x2 x3 => ?_, fun y hy => ?_, fun j j1 j2 e' g1 g2 g3 => ?_⟩
        · by_cases z : x = ((e / 8 : Nat) : Int)
          · rw [z]; exact hcx
          · rw [m3 _ (by omega)] at x3
            exact hs x x1 x2 x3
        · have := hS y hy
          exact ⟨this.1, this.2.1, m4 _ this.2.2⟩
        · rw [m6 j j1 (by omega)] at g3
          exact m4 _ (hd j j1 j2 e' g1 g2 g3)
      obtain ⟨q', mk', qu', k1, k2, k3⟩ := ih e (l3 + 1) q1 t mk1 qu1 (by omega) (by omega) (by omega) (by omega) (by omega) (by rw [m6 i hi h5]; exact h6) hB1 (fun e' g1 g2 g3 g4 => by
        rcases Nat.lt_or_ge e' E with z | z
        · rcases Nat.lt_or_ge e e' with z2 | z2
          · exact absurd g4 (e5 e' z2 z g3)
          · rw [show e' = e by omega]; exact m2
        · exact m4 _ (hD e' z g2 g3 g4))
      refine ⟨q', mk', qu', ?_, k2, by omega⟩
      rw [e1]
      unfold F_X1_allComeToMarked_b31_body
      refine G_i (by omega) (el_i (by omega) (G_i (by omega) (el_i (by omega) (G_i (by omega) (el_i (by omega) (G_i (by omega) ?_))))))
      rw [iDiv_ok (by omega) (by omega), show (e : Int) / 8 = ((e / 8 : Nat) : Int) by omega]
      refine Ob_i g1 (G_i (by omega) (Bd_i (Bd_i ?_)))
      rw [show ((e : Int)).toNat = e from Int.toNat_natCast _, hE.2.2 e (by omega) e3 (by rw [e4]; omega), e4]
      exact k1
theorem comes_ok {n F : Int} {ta la ne ld : Nat → Int} {S : Int → Prop} (hE : ER F (8 * n).toNat n ta la ne ld) (hn : 1 ≤ n ∧ n ≤ 300) (hF : F ≤ 8) :
    ∀ (fu : Nat) (i q : Int) (mk qu : Nat → Int), 0 ≤ i → i ≤ q → n - i < fu → BI n F ld S i q mk qu → ∃ r, F_X1_allComeToMarked_b2 n la ne fu i q mk qu = some r ∧ isB r.1 (∀ x : Int, 0 ≤ x → x < n → clo n F ld S x) := by
  intro fu
  induction fu with
  | zero =>
    intro i q mk qu h1 h2 h3 hB
    have hq := cnz_le (f := mk) n.toNat
    have hq2 := hB.1.2.1
    exact absurd h3 (by omega)
  | succ fu ih =>
    intro i q mk qu h1 h2 h3 hB
    show ∃ r, F_X1_allComeToMarked_b2_body n la ne (F_X1_allComeToMarked_b2 n la ne fu) i q mk qu = some r ∧ _
    have hq := cnz_le (f := mk) n.toNat
    have hq2 := hB.1.2.1
    unfold F_X1_allComeToMarked_b2_body
    refine G_e (by omega) ?_
    by_cases c : q ≤ i
    · obtain rfl : i = q := by omega
      have full : ∀ x : Int, clo n F ld S x → 0 ≤ x ∧ x < n ∧ mk x.toNat ≠ 0 := fun x hx => by
        refine hx (fun x => 0 ≤ x ∧ x < n ∧ mk x.toNat ≠ 0) hB.2.2.1 (fun m f m1 m2 f1 f2 g1 g2 => ⟨m1, m2, ?_⟩)
        obtain ⟨j, j1, j2, j3⟩ := hB.1.2.2.2 _ g2.1 g2.2.1 g2.2.2
        have := hB.2.2.2 j j1 j2 (8 * m + f).toNat (by omega) (by omega) j3.symm
        rw [show (8 * m + f).toNat / 8 = m.toNat by omega] at this
        exact this
      have fin : ∃ r, F_X1_allComeToMarked_b76 n la ne i mk qu = some r ∧ isB r.1 (∀ x : Int, 0 ≤ x → x < n → clo n F ld S x) := by
        unfold F_X1_allComeToMarked_b76
        refine G_e (by omega) ?_
        by_cases z : i = n
        · refine if_e z (G_e (by omega) (so_e (Or.inl ⟨rfl, fun x x1 x2 => hB.2.1 x x1 x2 ?_⟩)))
          exact (cnz_all n.toNat).mp (by omega) x.toNat (by omega)
        · refine el_e z (G_e (by omega) (so_e (Or.inr ⟨rfl, fun y => z ?_⟩)))
          have := (cnz_all (f := mk) n.toNat).mpr (fun s hs => by
            have := (full (s : Int) (y s (by omega) (by omega))).2.2
            rw [Int.toNat_natCast] at this
            exact this)
          omega
      by_cases c2 : 300 ≤ i
      · exact if_e c2 fin
      · exact el_e c2 (G_e (by omega) (if_e (by omega) fin))
    · refine el_e (by omega) (G_e (by omega) (el_e c (G_e (by omega) (Bd_e ?_))))
      have ht := hB.1.2.2.1 i h1 (by omega)
      refine G_e (by omega) (Bd_e ?_)
      rw [hE.2.1 _ ht.1 ht.2.1]
      obtain ⟨q', mk', qu', k1, k2, k3⟩ := chain_ok hE hn h1 (F_X1_allComeToMarked_b2 n la ne fu) NN (8 * n).toNat 0 q (qu i.toNat) mk qu (by omega) (by omega) (by omega) (by have := NN_gt (z := (8 * n)) (by omega); omega) (by omega) rfl hB (fun e g1 g2 => absurd g2 (by omega))
      rw [k1]
      exact ih (i + 1) q' mk' qu' (by omega) (by omega) (by omega) k2
/-- no node is marked -/
theorem MS_0 {n : Int} {mk qu : Nat → Int} (h : ∀ x : Nat, x < 300 → mk x = 0) (hn : 1 ≤ n ∧ n ≤ 300) : MS n 0 mk qu :=
  ⟨fun x hx => Or.inl (h x hx), (cnz_0 n.toNat (fun s hs => h s (by omega))).symm, fun i i1 i2 => absurd i2 (by omega), fun x x1 x2 x3 => absurd (h x.toNat (by omega)) x3⟩
theorem isHome_ok {n F q : Int} {ta la ne ld mk qu : Nat → Int} (hE : ER F (8 * n).toNat n ta la ne ld) (hn : 1 ≤ n ∧ n ≤ 300) (hF : F ≤ 8) : ∃ r, F_X1_isHome n la ne q mk qu = some r ∧ isB r.1 (∀ x : Int, 0 ≤ x → x < n → clo n F ld (fun y => y = 0) x) := by
  obtain ⟨r1, g1, g2, g3⟩ := unmarkAll_ok (q := q) (mk := mk)
  obtain ⟨q1, mk1⟩ := r1
  dsimp only at g2 g3
  subst g2
  have h0 : MS n 0 mk1 qu := MS_0 g3 hn
  obtain ⟨r2, k1, k2, k3, k4, k5, k6, k7⟩ := mark_ok (x := 0) h0 hn (by omega)
  have hB : BI n F ld (fun y => y = 0) 0 r2.1 r2.2.1 r2.2.2 := by
    refine ⟨k2, fun x x1 x2 x3 => ?_, fun y hy => ?_, fun j j1 j2 => absurd j2 (by omega)⟩
    · by_cases z : x = 0
      · exact fun C c1 c2 => c1 x z
      · rw [k4 _ (by omega)] at x3
        exact absurd (g3 _ (by omega)) x3
    · have hy0 : y = 0 := hy
      subst hy0
      exact ⟨by omega, by omega, k3⟩
  obtain ⟨r3, m1, m2⟩ := comes_ok hE hn hF NN 0 r2.1 r2.2.1 r2.2.2 (by omega) (by omega) (by have := NN_gt (z := n) (by omega); omega) hB
  unfold F_X1_isHome
  refine Ob_e g1 (Ob_e k1 (Ob_e (by unfold F_X1_allComeToMarked; exact m1) (G_e (isB_01 m2) (so_e m2))))
theorem target_ok {n F k f : Int} {ta la ne ld : Nat → Int} (hE : ER F (8 * n).toNat n ta la ne ld) (hn : 1 ≤ n ∧ n ≤ 300) (hk : 0 ≤ k ∧ k < n) (hf : 0 ≤ f ∧ f < F) (hF : F ≤ 8) : F_X1_target k f ta = some (ld (8 * k + f).toNat) ∧ -1 ≤ ld (8 * k + f).toNat ∧ ld (8 * k + f).toNat < n := by
  have h := hE.1 (8 * k + f).toNat (by omega) (by omega)
  refine ⟨?_, h.2⟩
  unfold F_X1_target
  rw [show k * 8 + f = 8 * k + f by omega]
  refine Bd_i (G_i (by omega) (el_i (by omega) (G_i (by omega) (el_i (by omega) (G_i (by omega) (Bd_i ?_))))))
  rw [h.1]
/-- how often a firing can go: never, from some markings, from everywhere again -/
theorem levelOf_ok {n F f q : Int} {ta la ne ld mk qu : Nat → Int} (hE : ER F (8 * n).toNat n ta la ne ld) (hn : 1 ≤ n ∧ n ≤ 300) (hF : F ≤ 8) (hf : 0 ≤ f ∧ f < F) :
    ∃ r, F_X1_levelOf f n ta la ne q mk qu = some r ∧ ((r.1 = 0 ∧ ∀ m : Int, 0 ≤ m → m < n → ld (8 * m + f).toNat = -1) ∨ ((∃ m : Int, 0 ≤ m ∧ m < n ∧ ld (8 * m + f).toNat ≠ -1) ∧ ((r.1 = 2 ∧ ∀ x : Int, 0 ≤ x → x < n → clo n F ld (fun y => 0 ≤ y ∧ y < n ∧ ld (8 * y + f).toNat ≠ -1) x) ∨ (r.1 = 1 ∧ ¬ ∀ x : Int, 0 ≤ x → x < n → clo n F ld (fun y => 0 ≤ y ∧ y < n ∧ ld (8 * y + f).toNat ≠ -1) x)))) := by
  have key : ∀ (fu : Nat) (k q : Int) (mk qu : Nat → Int), 0 ≤ k → k ≤ n → n - k < fu → MS n q mk qu → (∀ x : Int, 0 ≤ x → x < n → (mk x.toNat ≠ 0 ↔ x < k ∧ ld (8 * x + f).toNat ≠ -1)) →
      ∃ r, F_X1_levelOf_b6 n ta la ne fu f k q mk qu = some r ∧ ((r.1 = 0 ∧ ∀ m : Int, 0 ≤ m → m < n → ld (8 * m + f).toNat = -1) ∨ ((∃ m : Int, 0 ≤ m ∧ m < n ∧ ld (8 * m + f).toNat ≠ -1) ∧ ((r.1 = 2 ∧ ∀ x : Int, 0 ≤ x → x < n → clo n F ld (fun y => 0 ≤ y ∧ y < n ∧ ld (8 * y + f).toNat ≠ -1) x) ∨ (r.1 = 1 ∧ ¬ ∀ x : Int, 0 ≤ x → x < n → clo n F ld (fun y => 0 ≤ y ∧ y < n ∧ ld (8 * y + f).toNat ≠ -1) x)))) := by
    intro fu
    induction fu with
    | zero => intro k q mk qu h1 h2 h3; exact absurd h3 (by omega)
    | succ fu ih =>
      intro k q mk qu h1 h2 h3 hM hm
      show ∃ r, F_X1_levelOf_b6_body n ta la ne (F_X1_levelOf_b6 n ta la ne fu) f k q mk qu = some r ∧ _
      have hq := cnz_le (f := mk) n.toNat
      have hq2 := hM.2.1
      unfold F_X1_levelOf_b6_body
      refine G_e (by omega) ?_
      by_cases c : n ≤ k
      · obtain rfl : k = n := by omega
        refine if_e c (G_e (by omega) ?_)
        by_cases z : q = 0
        · refine if_e z (so_e (Or.inl ⟨rfl, fun m m1 m2 => ?_⟩))
          by_cases y : ld (8 * m + f).toNat = -1
          · exact y
          · obtain ⟨i, i1, i2, -⟩ := hM.2.2.2 m m1 m2 ((hm m m1 m2).mpr ⟨m2, y⟩)
            omega
        · refine el_e z ?_
          have hx := hM.2.2.1 0 (by omega) (by omega)
          have hB : BI k F ld (fun y => 0 ≤ y ∧ y < k ∧ ld (8 * y + f).toNat ≠ -1) 0 q mk qu :=
            ⟨hM, fun x x1 x2 x3 C c1 c2 => c1 x ⟨x1, x2, ((hm x x1 x2).mp x3).2⟩, fun y hy => ⟨hy.1, hy.2.1, (hm y hy.1 hy.2.1).mpr hy.2⟩, fun j j1 j2 => absurd j2 (by omega)⟩
          obtain ⟨r3, m1, m2⟩ := comes_ok hE hn hF NN 0 q mk qu (by omega) (by omega) (by have := NN_gt (z := k) (by omega); omega) hB
          have hex : ∃ m : Int, 0 ≤ m ∧ m < k ∧ ld (8 * m + f).toNat ≠ -1 := ⟨_, hx.1, hx.2.1, ((hm _ hx.1 hx.2.1).mp hx.2.2).2⟩
          refine Ob_e (by unfold F_X1_allComeToMarked; exact m1) (G_e (by have := isB_01 m2; omega) ?_)
          rcases m2 with ⟨m3, m4⟩ | ⟨m3, m4⟩
          · exact el_e (by omega) (so_e (Or.inr ⟨hex, Or.inl ⟨rfl, m4⟩⟩))
          · exact if_e m3 (so_e (Or.inr ⟨hex, Or.inr ⟨rfl, m4⟩⟩))
      · obtain ⟨t1, t2, t3⟩ := target_ok hE hn ⟨h1, by omega⟩ hf hF
        refine el_e c (Ob_e t1 (G_e (by omega) ?_))
        by_cases y : ld (8 * k + f).toNat = -1
        · refine if_e y ?_
          unfold F_X1_levelOf_b29
          refine Bd_e (ih (k + 1) q mk qu (by omega) (by omega) (by omega) hM (fun x x1 x2 => ?_))
          refine (hm x x1 x2).trans ⟨fun g => ⟨by omega, g.2⟩, fun g => ⟨?_, g.2⟩⟩
          by_cases e : x = k
          · rw [e] at g; exact absurd y g.2
          · omega
        · obtain ⟨r2, k1, k2, k3, k4, k5, k6, k7⟩ := mark_ok (x := k) hM hn ⟨h1, by omega⟩
          refine el_e y (Ob_e k1 ?_)
          unfold F_X1_levelOf_b29
          refine Bd_e (ih (k + 1) _ _ _ (by omega) (by omega) (by omega) k2 (fun x x1 x2 => ?_))
          by_cases e : x = k
          · rw [e]
            exact ⟨fun _ => ⟨by omega, y⟩, fun _ => k3⟩
          · rw [k4 _ (by omega)]
            exact (hm x x1 x2).trans ⟨fun g => ⟨by omega, g.2⟩, fun g => ⟨by omega, g.2⟩⟩
  obtain ⟨r1, g1, g2, g3⟩ := unmarkAll_ok (q := q) (mk := mk)
  unfold F_X1_levelOf
  refine Ob_e g1 ?_
  rw [g2]
  exact key NN 0 0 r1.2 qu (by omega) (by omega) (by have := NN_gt (z := n) (by omega); omega) (MS_0 g3 hn) (fun x x1 x2 => ⟨fun z => absurd (g3 _ (by omega)) z, fun z => absurd z.1 (by omega)⟩)
